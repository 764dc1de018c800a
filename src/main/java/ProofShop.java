import java.util.Arrays;
import java.util.NoSuchElementException;

/** A shop that sells proofs by the line; ../shared/DOC.md says what each call promises. */
public final class ProofShop {
    public static final int NONE = -1;

    private static final int HOUSES = 3;
    private static final int CUSTOMERS = 4;
    private static final int BUYERS = CUSTOMERS + HOUSES;
    private static final int MOST_FORMULAS = 30;
    private static final int MOST_LINES = 40;
    private static final int MOST_RECEIPTS = 30;
    private static final int MOST_THINGS = 3;
    private static final int MOST_IN_SET = 14;
    private static final int MOST_COINS = 9999;
    private static final int LAST_DAY = 9999;
    private static final int ALL_LAWS = 31;

    private static final int BELIEF = 0;
    private static final int ASSUMED = 1;
    private static final int BOTH = 2;
    private static final int LEFT = 3;
    private static final int RIGHT = 4;
    private static final int FIRST = 5;
    private static final int LAST = 6;
    private static final int ON = 7;
    private static final int TWICE = 8;
    private static final int CASES = 9;
    private static final int GIVEN = 10;
    private static final int ONE = 11;
    private static final int EACH = 12;
    private static final int THERE = 13;
    private static final int ABSURD = 14;
    private static final int BOUGHT = 15;
    private static final int RULES = 16;
    private static final int ALL_RULES = 65535;
    private static final int PER_SIGN = 16;

    private final Forms forms;
    private final Books books;
    private final Books kept;
    private final Reader reader;
    private final Models models;
    private final Auditor auditor;
    private final Prover prover;
    private final Till till;
    private boolean isKept;

    public ProofShop() {
        forms = new Forms();
        books = new Books();
        kept = new Books();
        reader = new Reader(forms);
        models = new Models(books);
        auditor = new Auditor(forms, books);
        prover = new Prover(forms, books);
        till = new Till(books, auditor);
    }

    public int feed(int a, int b, int c, int d, int e) {
        if (!reader.hasRoom(20)) {
            return NONE;
        }
        reader.put(a);
        reader.put(b);
        reader.put(c);
        reader.put(d);
        reader.put(e);
        return reader.size;
    }

    public boolean end(int n) {
        return reader.cut(n);
    }

    public int formula() throws IllegalArgumentException, UnsupportedOperationException {
        int node = reader.read(books.things);
        if (node == NONE) {
            forms.cut(books.nodes);
            throw new IllegalArgumentException("the text is wrong");
        }
        if (books.formulas >= MOST_FORMULAS) {
            forms.cut(books.nodes);
            throw new UnsupportedOperationException("there are 30 formulas");
        }
        books.nodes = forms.used;
        return books.addFormula(node, forms);
    }

    public int fault() {
        return reader.fault;
    }

    public void things(int n) throws IllegalArgumentException, IllegalStateException {
        if (n < 1 || n > MOST_THINGS) {
            throw new IllegalArgumentException("no such number of things");
        }
        if (books.formulas > 0) {
            throw new IllegalStateException("there are formulas");
        }
        books.things = n;
    }

    public int signs(int formula) throws IndexOutOfBoundsException {
        needFormula(formula);
        return forms.signsOf(books.nodeOf(formula));
    }

    public boolean same(int first, int second) throws IndexOutOfBoundsException {
        needFormula(first);
        needFormula(second);
        return books.nodeOf(first) == books.nodeOf(second);
    }

    public boolean holds(int formula, int world) throws IndexOutOfBoundsException, IllegalArgumentException {
        needFormula(formula);
        needWorld(world);
        return books.isTrue(formula, world);
    }

    public int worlds(int formula) throws IndexOutOfBoundsException {
        needFormula(formula);
        return models.size(formula);
    }

    public int rules(int house, int bits) throws IndexOutOfBoundsException, IllegalArgumentException {
        needHouse(house);
        if (bits < 0 || bits > ALL_RULES) {
            throw new IllegalArgumentException("no such rules");
        }
        int old = books.rules[house];
        books.rules[house] = bits;
        return old;
    }

    public int price(int house, int rule, int n) throws IndexOutOfBoundsException, IllegalArgumentException {
        needHouse(house);
        if (rule < 0 || rule > PER_SIGN) {
            throw new IndexOutOfBoundsException("no such rule");
        }
        if (n < 0 || n > (rule == PER_SIGN ? 9 : 99)) {
            throw new IllegalArgumentException("no such price");
        }
        int old = books.priceOf(house, rule);
        books.setPrice(house, rule, n);
        return old;
    }

    public boolean believe(int customer, int formula, boolean is) throws IndexOutOfBoundsException {
        needCustomer(customer);
        needFormula(formula);
        int old = books.told[customer];
        int bit = 1 << formula;
        books.told[customer] = is ? old | bit : old & ~bit;
        return books.told[customer] != old;
    }

    public int beliefs(int customer) throws IndexOutOfBoundsException {
        needCustomer(customer);
        return books.told[customer];
    }

    public int line(int house, int formula, int rule, int a, int b, int c)
            throws IndexOutOfBoundsException, IllegalArgumentException, UnsupportedOperationException {
        needHouse(house);
        needFormula(formula);
        if (rule < 0 || rule >= RULES) {
            throw new IndexOutOfBoundsException("no such rule");
        }
        if (rule == BELIEF) {
            needCustomer(a);
        } else {
            needPremise(a);
        }
        needPremise(b);
        needPremise(c);
        if (!areInOrder(rule, a, b, c)) {
            throw new IllegalArgumentException("a premise too many, or behind none");
        }
        if (books.lines >= MOST_LINES) {
            throw new UnsupportedOperationException("there are 40 lines");
        }
        return books.addLine(house, formula, rule, a, b, c);
    }

    public int look(int line, int what) throws IndexOutOfBoundsException, NoSuchElementException {
        needLine(line);
        if (what < 0 || what > Books.LINE_FIELDS) {
            throw new NoSuchElementException("no such what");
        }
        return what == Books.LINE_FIELDS ? auditor.costOf(line) : books.ofLine(line, what);
    }

    public boolean is(int line, int what) throws IndexOutOfBoundsException, NoSuchElementException {
        needLine(line);
        if (what < 0 || what > 4) {
            throw new NoSuchElementException("no such what");
        }
        auditor.audit();
        return auditor.tells(line, what);
    }

    public int wrong() {
        auditor.audit();
        return auditor.firstWrong();
    }

    public long rests(int line) throws IndexOutOfBoundsException {
        needLine(line);
        return books.rests[line];
    }

    public long needs(int line) throws IndexOutOfBoundsException {
        needLine(line);
        return books.needs[line];
    }

    public int spent(int line) throws IndexOutOfBoundsException {
        needLine(line);
        return auditor.costOfAll(line);
    }

    public long falls(int customer, int formula) throws IndexOutOfBoundsException {
        needCustomer(customer);
        needFormula(formula);
        int left = books.told[customer] & ~(1 << formula);
        return auditor.staleIf(customer, left) & ~auditor.staleIf(NONE, 0);
    }

    public boolean follows(int customer, int formula) throws IndexOutOfBoundsException {
        needCustomer(customer);
        needFormula(formula);
        return models.leastBreach(books.told[customer], formula) == NONE;
    }

    public int counter(int customer, int formula) throws IndexOutOfBoundsException {
        needCustomer(customer);
        needFormula(formula);
        return models.leastBreach(books.told[customer], formula);
    }

    public int cheapest(int house, int customer, int formula) throws IndexOutOfBoundsException {
        needProof(house, customer, formula);
        return prover.costIn(house);
    }

    public int lastly(int house, int customer, int formula) throws IndexOutOfBoundsException {
        needProof(house, customer, formula);
        return prover.lastRuleIn(house);
    }

    public int where(int customer, int formula) throws IndexOutOfBoundsException {
        needProof(0, customer, formula);
        return prover.cheapestHouse();
    }

    public int resold(int house, int customer, int formula) throws IndexOutOfBoundsException {
        needProof(house, customer, formula);
        return prover.costResold(house);
    }

    public int forward(int house, int customer, int formula) throws IndexOutOfBoundsException {
        needProof(house, customer, formula);
        int own = prover.costIn(house);
        if (own == NONE) {
            return NONE;
        }
        int other = prover.costResold(house);
        return other == NONE ? 0 : Math.max(0, own - other);
    }

    public int truths(int world) throws IllegalArgumentException {
        needWorld(world);
        return models.truthsIn(world);
    }

    public int agree(int first, int second) throws IndexOutOfBoundsException {
        needCustomer(first);
        needCustomer(second);
        return models.leastWorld(books.told[first] | books.told[second]);
    }

    public int withdraw(int set) throws IllegalArgumentException {
        int members = needSet(set);
        return models.fewestFailing(members);
    }

    public int idle(int customer) throws IndexOutOfBoundsException {
        needCustomer(customer);
        return models.idleIn(books.told[customer]);
    }

    public int alike(int formula) throws IndexOutOfBoundsException {
        needFormula(formula);
        return models.alikeTo(formula);
    }

    public int core(int set) throws IllegalArgumentException {
        int members = needSet(set);
        return models.leastClash(members);
    }

    public int more(int customer, int formula) throws IndexOutOfBoundsException {
        needCustomer(customer);
        needFormula(formula);
        return models.fewestMore(books.told[customer], formula);
    }

    public int gains(int house, int law) throws IndexOutOfBoundsException, IllegalArgumentException {
        needHouse(house);
        needLaw(law);
        auditor.audit();
        return till.gainOf(house, law);
    }

    public int sell(int line, int buyer, int coins, int day)
            throws IndexOutOfBoundsException, IllegalArgumentException, UnsupportedOperationException {
        needLine(line);
        boolean isToItself = buyer == CUSTOMERS + books.ofLine(line, Books.HOUSE);
        if (buyer < 0 || buyer >= BUYERS || isToItself) {
            throw new IllegalArgumentException("no such buyer");
        }
        if (coins < 0 || coins > MOST_COINS || day < 0 || day > LAST_DAY) {
            throw new IllegalArgumentException("no such coins or day");
        }
        if (books.receipts >= MOST_RECEIPTS) {
            throw new UnsupportedOperationException("there are 30 receipts");
        }
        return books.addReceipt(line, buyer, coins, day);
    }

    public boolean undo(int receipt) throws IndexOutOfBoundsException {
        if (receipt < 0 || receipt >= books.receipts) {
            throw new IndexOutOfBoundsException("no such receipt");
        }
        boolean isNew = !books.isVoid(receipt);
        books.voids |= 1 << receipt;
        return isNew;
    }

    public int owes(int house, int buyer, int law) throws IndexOutOfBoundsException, IllegalArgumentException {
        needHouse(house);
        needLaw(law);
        if (buyer != NONE && (buyer < 0 || buyer >= BUYERS)) {
            throw new IllegalArgumentException("no such buyer");
        }
        auditor.audit();
        return till.owedBy(house, buyer, law);
    }

    public int refunds(int law) throws IllegalArgumentException {
        needLaw(law);
        auditor.audit();
        return till.refunded(law);
    }

    public int dearer() {
        return till.dearerOnes();
    }

    public int chain(int line) throws IndexOutOfBoundsException {
        needLine(line);
        return auditor.boughtInRow(line);
    }

    public void image() {
        kept.take(books);
        isKept = true;
    }

    public boolean back() {
        if (!isKept) {
            return false;
        }
        books.take(kept);
        forms.cut(books.nodes);
        return true;
    }

    public int count(int what) {
        switch (what) {
            case 0:
                return books.things;
            case 1:
                return books.formulas;
            case 2:
                return books.lines;
            case 3:
                return books.receipts;
            case 4:
                return Integer.bitCount(books.voids);
            case 5:
                auditor.audit();
                return books.lines - Long.bitCount(auditor.honest);
            case 6:
                return till.coinsOfAll();
            default:
                return NONE;
        }
    }

    private void needFormula(int formula) {
        if (formula < 0 || formula >= books.formulas) {
            throw new IndexOutOfBoundsException("no such formula");
        }
    }

    private void needHouse(int house) {
        if (house < 0 || house >= HOUSES) {
            throw new IndexOutOfBoundsException("no such house");
        }
    }

    private void needCustomer(int customer) {
        if (customer < 0 || customer >= CUSTOMERS) {
            throw new IndexOutOfBoundsException("no such customer");
        }
    }

    private void needLine(int line) {
        if (line < 0 || line >= books.lines) {
            throw new IndexOutOfBoundsException("no such line");
        }
    }

    private void needPremise(int line) {
        if (line != NONE) {
            needLine(line);
        }
    }

    private void needWorld(int world) {
        if (world < 0 || world >= books.worldCount()) {
            throw new IllegalArgumentException("no such world");
        }
    }

    private void needLaw(int law) {
        if (law < 0 || law > ALL_LAWS) {
            throw new IllegalArgumentException("no such law");
        }
    }

    /** The formulas of a set that there are; bits of none count for nothing. */
    private int needSet(int set) {
        int members = set & ((1 << books.formulas) - 1);
        if (Integer.bitCount(members) > MOST_IN_SET) {
            throw new IllegalArgumentException("more than 14 in the set");
        }
        return members;
    }

    private void needProof(int house, int customer, int formula) {
        needHouse(house);
        needCustomer(customer);
        needFormula(formula);
        prover.prepare(customer, books.nodeOf(formula));
    }

    private static boolean areInOrder(int rule, int a, int b, int c) {
        if (rule == BELIEF) {
            return b == NONE && c == NONE;
        }
        return (a != NONE || b == NONE) && (b != NONE || c == NONE);
    }

    /** All formulas and their parts, each kept once: two are SAME if they are one number. */
    private static final class Forms {
        static final int ATOM = 0;
        static final int NOT = 1;
        static final int AND = 2;
        static final int OR = 3;
        static final int IF = 4;
        static final int ALL = 5;
        static final int SOME = 6;
        /** In place of a thing: x. */
        static final int X = 3;
        /** Atoms: p, q, r, s are letters 0 to 3, f and g 4 and 5. */
        static final int LONE_LETTERS = 4;

        private static final int BUCKETS = 128;
        private static final int FIRST_ROOM = 128;
        /** Thirty formulas of forty signs, each with three things in place of x, have fewer than 5000. */
        private static final int MOST_ROOM = 8192;
        /** Forty signs cannot nest deeper. */
        private static final int DEEPEST = 48;
        private static final long[] COLUMNS = {
            0xAAAAAAAAAAAAAAAAL, 0xCCCCCCCCCCCCCCCCL, 0xF0F0F0F0F0F0F0F0L,
            0xFF00FF00FF00FF00L, 0xFFFF0000FFFF0000L, 0xFFFFFFFF00000000L,
        };

        int used;
        private int[] kind = new int[FIRST_ROOM];
        private int[] first = new int[FIRST_ROOM];
        private int[] second = new int[FIRST_ROOM];
        private int[] signs = new int[FIRST_ROOM];
        private int[] next = new int[FIRST_ROOM];
        private int[] placed = new int[FIRST_ROOM * MOST_THINGS];
        private final int[] heads = new int[BUCKETS];

        Forms() {
            Arrays.fill(heads, NONE);
        }

        int kindOf(int node) {
            return node >= 0 && node < used ? kind[node] : NONE;
        }

        int firstOf(int node) {
            return node >= 0 && node < used ? first[node] : NONE;
        }

        int secondOf(int node) {
            return node >= 0 && node < used ? second[node] : NONE;
        }

        int signsOf(int node) {
            return node >= 0 && node < used ? signs[node] : 0;
        }

        /** What is within all or some, with a thing in place of x. */
        int placedOf(int node, int thing) {
            boolean isThere = node >= 0 && node < used && thing >= 0 && thing < MOST_THINGS;
            return isThere ? placed[node * MOST_THINGS + thing] : NONE;
        }

        boolean isMade(int node, int itsKind, int itsFirst, int itsSecond) {
            return node >= 0 && node < used
                    && kind[node] == itsKind && first[node] == itsFirst && second[node] == itsSecond;
        }

        int makeAtom(int letter, int thing) {
            return make(ATOM, letter, thing);
        }

        /** The node of a kind with these parts (of an atom: letter and thing). */
        int make(int newKind, int newFirst, int newSecond) {
            int bucket = ((newKind * 31 + newFirst) * 31 + newSecond) & (BUCKETS - 1);
            int node = heads[bucket];
            for (int i = 0; i < used && node >= 0 && node < used; i++) {
                if (isMade(node, newKind, newFirst, newSecond)) {
                    return node;
                }
                node = next[node];
            }
            if (!hasRoom()) {
                return NONE;
            }
            int made = used;
            kind[made] = newKind;
            first[made] = newFirst;
            second[made] = newSecond;
            signs[made] = newKind == ATOM ? 1 : 1 + signsOf(newFirst) + signsOf(newSecond);
            next[made] = heads[bucket];
            heads[bucket] = made;
            for (int thing = 0; thing < MOST_THINGS; thing++) {
                placed[made * MOST_THINGS + thing] = NONE;
            }
            used++;
            return made;
        }

        /** All or some of a body with x; its parts are the body with each thing. */
        int makeBinder(int newKind, int body, int things) {
            int made = make(newKind, body, NONE);
            for (int thing = 0; made != NONE && thing < things && thing < MOST_THINGS; thing++) {
                int part = place(body, thing, 0);
                placed[made * MOST_THINGS + thing] = part;
            }
            return made;
        }

        private int place(int node, int thing, int depth) {
            if (node < 0 || node >= used || depth > DEEPEST) {
                return NONE;
            }
            switch (kind[node]) {
                case ATOM:
                    return second[node] == X ? makeAtom(first[node], thing) : node;
                case NOT:
                    return make(NOT, place(first[node], thing, depth + 1), NONE);
                case AND:
                case OR:
                case IF:
                    int left = place(first[node], thing, depth + 1);
                    int right = place(second[node], thing, depth + 1);
                    return make(kind[node], left, right);
                default:
                    return node;
            }
        }

        /** Whether one more node goes in; the rows grow when they are full. */
        private boolean hasRoom() {
            if (used < kind.length) {
                return true;
            }
            int room = kind.length * 2;
            if (room < FIRST_ROOM || room > MOST_ROOM) {
                return false;
            }
            kind = Arrays.copyOf(kind, room);
            first = Arrays.copyOf(first, room);
            second = Arrays.copyOf(second, room);
            signs = Arrays.copyOf(signs, room);
            next = Arrays.copyOf(next, room);
            placed = Arrays.copyOf(placed, room * MOST_THINGS);
            return true;
        }

        /** Forgets all nodes from this number on; chains run from later nodes to earlier ones. */
        void cut(int count) {
            if (count < 0 || count >= used) {
                return;
            }
            for (int bucket = 0; bucket < BUCKETS; bucket++) {
                int node = heads[bucket];
                for (int i = 0; i < used && node >= count && node < used; i++) {
                    node = next[node];
                }
                heads[bucket] = node;
            }
            used = count;
        }

        /** In which of the worlds 64 * word to 64 * word + 63 a node holds. */
        long truth(int node, int word, int things) {
            return truthAt(node, word, things, 0);
        }

        private long truthAt(int node, int word, int things, int depth) {
            if (node < 0 || node >= used || depth > DEEPEST) {
                return 0;
            }
            int a = first[node];
            int b = second[node];
            switch (kind[node]) {
                case ATOM:
                    return column(a < LONE_LETTERS ? a : LONE_LETTERS + (a - LONE_LETTERS) * things + b, word);
                case NOT:
                    return ~truthAt(a, word, things, depth + 1);
                case AND:
                    return truthAt(a, word, things, depth + 1) & truthAt(b, word, things, depth + 1);
                case OR:
                    return truthAt(a, word, things, depth + 1) | truthAt(b, word, things, depth + 1);
                case IF:
                    return ~truthAt(a, word, things, depth + 1) | truthAt(b, word, things, depth + 1);
                default:
                    return truthOfBinder(node, word, things, depth);
            }
        }

        private long truthOfBinder(int node, int word, int things, int depth) {
            boolean isAll = kindOf(node) == ALL;
            long result = isAll ? -1L : 0L;
            for (int thing = 0; thing < things; thing++) {
                long part = truthAt(placedOf(node, thing), word, things, depth + 1);
                result = isAll ? result & part : result | part;
            }
            return result;
        }

        /** In which worlds of a word a bit of the world's number is set. */
        private static long column(int bit, int word) {
            if (bit >= 0 && bit < COLUMNS.length) {
                return COLUMNS[bit];
            }
            return ((word >> (bit - COLUMNS.length)) & 1) == 0 ? 0L : -1L;
        }
    }

    /** All that an image keeps. */
    private static final class Books {
        static final int WORDS = 16;
        static final int HOUSE = 0;
        static final int FORMULA = 1;
        static final int RULE = 2;
        static final int PREMISE = 3;
        static final int LINE_FIELDS = 6;
        static final int SOLD = 0;
        static final int BUYER = 1;
        static final int COINS = 2;
        static final int DAY = 3;
        static final int RECEIPT_FIELDS = 4;
        private static final int PRICES = RULES + 1;

        int things = 2;
        /** How many nodes of the forms belong to the formulas. */
        int nodes;
        int formulas;
        final long[] truth = new long[MOST_FORMULAS * WORDS];
        final int[] rules = new int[HOUSES];
        final int[] told = new int[CUSTOMERS];
        int lines;
        final long[] rests = new long[MOST_LINES];
        final long[] needs = new long[MOST_LINES];
        int receipts;
        int voids;
        private final int[] node = new int[MOST_FORMULAS];
        private final int[] prices = new int[HOUSES * PRICES];
        private final int[] line = new int[MOST_LINES * LINE_FIELDS];
        private final int[] receipt = new int[MOST_RECEIPTS * RECEIPT_FIELDS];

        Books() {
            for (int house = 0; house < HOUSES; house++) {
                rules[house] = ALL_RULES;
                for (int rule = 0; rule < PRICES; rule++) {
                    prices[house * PRICES + rule] = rule == PER_SIGN ? 1 : 10;
                }
            }
        }

        void take(Books other) {
            things = other.things;
            nodes = other.nodes;
            formulas = other.formulas;
            lines = other.lines;
            receipts = other.receipts;
            voids = other.voids;
            System.arraycopy(other.truth, 0, truth, 0, truth.length);
            System.arraycopy(other.rules, 0, rules, 0, rules.length);
            System.arraycopy(other.told, 0, told, 0, told.length);
            System.arraycopy(other.rests, 0, rests, 0, rests.length);
            System.arraycopy(other.needs, 0, needs, 0, needs.length);
            System.arraycopy(other.node, 0, node, 0, node.length);
            System.arraycopy(other.prices, 0, prices, 0, prices.length);
            System.arraycopy(other.line, 0, line, 0, line.length);
            System.arraycopy(other.receipt, 0, receipt, 0, receipt.length);
        }

        int worldCount() {
            return 1 << (4 + 2 * things);
        }

        /** Worlds are looked at 64 at a time. */
        int words() {
            return worldCount() / 64;
        }

        int addFormula(int newNode, Forms forms) {
            if (formulas >= MOST_FORMULAS) {
                return NONE;
            }
            node[formulas] = newNode;
            for (int word = 0; word < words(); word++) {
                truth[formulas * WORDS + word] = forms.truth(newNode, word, things);
            }
            return formulas++;
        }

        int nodeOf(int formula) {
            return formula >= 0 && formula < formulas ? node[formula] : NONE;
        }

        long truthOf(int formula, int word) {
            return formula >= 0 && formula < formulas && word >= 0 && word < WORDS
                    ? truth[formula * WORDS + word] : 0L;
        }

        boolean isTrue(int formula, int world) {
            return (truthOf(formula, world >> 6) >>> (world & 63) & 1) != 0;
        }

        boolean hasRule(int house, int rule) {
            return house >= 0 && house < HOUSES && (rules[house] >> rule & 1) != 0;
        }

        int priceOf(int house, int rule) {
            boolean isThere = house >= 0 && house < HOUSES && rule >= 0 && rule < PRICES;
            return isThere ? prices[house * PRICES + rule] : 0;
        }

        void setPrice(int house, int rule, int price) {
            if (house >= 0 && house < HOUSES && rule >= 0 && rule < PRICES) {
                prices[house * PRICES + rule] = price;
            }
        }

        int costOf(int house, int rule, int signs) {
            return priceOf(house, rule) + signs * priceOf(house, PER_SIGN);
        }

        int toldTo(int customer) {
            return customer >= 0 && customer < CUSTOMERS ? told[customer] : 0;
        }

        /** Whether one who is told these formulas believes what a node says. */
        boolean isAmong(int formulasTold, int itsNode) {
            for (int formula = 0; formula < formulas; formula++) {
                if ((formulasTold >> formula & 1) != 0 && node[formula] == itsNode) {
                    return true;
                }
            }
            return false;
        }

        int addLine(int house, int formula, int rule, int a, int b, int c) {
            if (lines >= MOST_LINES) {
                return NONE;
            }
            int at = lines * LINE_FIELDS;
            line[at + HOUSE] = house;
            line[at + FORMULA] = formula;
            line[at + RULE] = rule;
            line[at + PREMISE] = a;
            line[at + PREMISE + 1] = b;
            line[at + PREMISE + 2] = c;
            lines++;
            standOn(lines - 1);
            return lines - 1;
        }

        /** Rules and premises of a line never change, so what it stands on is told once. */
        private void standOn(int newLine) {
            long itself = 1L << newLine;
            long rest = 0;
            long need = itself;
            for (int i = 0; i < 3; i++) {
                int premise = premiseOf(newLine, i);
                if (premise >= 0 && premise < newLine) {
                    rest |= rests[premise];
                    need |= needs[premise];
                }
            }
            int rule = ofLine(newLine, RULE);
            int given = premiseOf(newLine, 0);
            if (rule == GIVEN && given >= 0 && ofLine(given, RULE) == ASSUMED) {
                rest &= ~(1L << given);
            }
            rests[newLine] = rule == BELIEF || rule == ASSUMED ? itself : rest;
            needs[newLine] = need;
        }

        int ofLine(int itsLine, int what) {
            boolean isThere = itsLine >= 0 && itsLine < lines && what >= 0 && what < LINE_FIELDS;
            return isThere ? line[itsLine * LINE_FIELDS + what] : NONE;
        }

        /** A premise of a line; the customer of a belief is none. */
        int premiseOf(int itsLine, int which) {
            return ofLine(itsLine, RULE) == BELIEF ? NONE : ofLine(itsLine, PREMISE + which);
        }

        /** What a line says, as a node. */
        int nodeOfLine(int itsLine) {
            return nodeOf(ofLine(itsLine, FORMULA));
        }

        int addReceipt(int sold, int buyer, int coins, int day) {
            if (receipts >= MOST_RECEIPTS) {
                return NONE;
            }
            int at = receipts * RECEIPT_FIELDS;
            receipt[at + SOLD] = sold;
            receipt[at + BUYER] = buyer;
            receipt[at + COINS] = coins;
            receipt[at + DAY] = day;
            return receipts++;
        }

        int ofReceipt(int itsReceipt, int what) {
            boolean isThere = itsReceipt >= 0 && itsReceipt < receipts && what >= 0 && what < RECEIPT_FIELDS;
            return isThere ? receipt[itsReceipt * RECEIPT_FIELDS + what] : NONE;
        }

        boolean isVoid(int itsReceipt) {
            return (voids >> itsReceipt & 1) != 0;
        }
    }

    /** The tape, and how its text is read. */
    private static final class Reader {
        private static final int MOST_BYTES = 400;
        private static final int MOST_SIGNS = 40;
        private static final int DEEPEST = 8;

        int size;
        int fault = NONE;
        private final Forms forms;
        private final byte[] tape = new byte[MOST_BYTES];
        private int at;
        private int signs;
        private int things;

        Reader(Forms forms) {
            this.forms = forms;
        }

        boolean hasRoom(int bytes) {
            return size + bytes <= MOST_BYTES;
        }

        void put(int number) {
            for (int shift = 24; shift >= 0 && size < MOST_BYTES; shift -= 8) {
                tape[size] = (byte) (number >> shift);
                size++;
            }
        }

        boolean cut(int n) {
            if (n < 0 || n > size) {
                return false;
            }
            size = n;
            return true;
        }

        /** Uses the tape up: the node of its text, or NONE and its fault. */
        int read(int thingsNow) {
            things = thingsNow;
            at = 0;
            signs = 0;
            fault = NONE;
            int node = readIf(0, false);
            if (peek() != NONE) {
                fail(at);
            }
            size = 0;
            return fault == NONE ? node : NONE;
        }

        private int readIf(int depth, boolean isBound) {
            int left = readOr(depth, isBound);
            if (peek() != '>' || !mayGoDeeper(depth) || !mayTakeSign(at)) {
                return left;
            }
            at++;
            int right = readIf(depth + 1, isBound);
            return join(Forms.IF, left, right);
        }

        private int readOr(int depth, boolean isBound) {
            int left = readAnd(depth, isBound);
            for (int i = 0; i < MOST_BYTES && peek() == '|' && mayTakeSign(at); i++) {
                at++;
                left = join(Forms.OR, left, readAnd(depth, isBound));
            }
            return left;
        }

        private int readAnd(int depth, boolean isBound) {
            int left = readUnit(depth, isBound);
            for (int i = 0; i < MOST_BYTES && peek() == '&' && mayTakeSign(at); i++) {
                at++;
                left = join(Forms.AND, left, readUnit(depth, isBound));
            }
            return left;
        }

        private int readUnit(int depth, boolean isBound) {
            int next = peek();
            if (next == NONE) {
                return fail(size);
            }
            if (next == '-') {
                return readNot(depth, isBound);
            }
            if (next == '(') {
                return readInner(depth, isBound);
            }
            if (isLetter(at)) {
                return readWord(depth, isBound);
            }
            return fail(at);
        }

        private int readNot(int depth, boolean isBound) {
            if (!mayGoDeeper(depth) || !mayTakeSign(at)) {
                return NONE;
            }
            at++;
            return join(Forms.NOT, readUnit(depth + 1, isBound), NONE);
        }

        private int readInner(int depth, boolean isBound) {
            if (!mayGoDeeper(depth)) {
                return NONE;
            }
            at++;
            int inner = readIf(depth + 1, isBound);
            int next = peek();
            if (next == NONE) {
                return fail(size);
            }
            if (next != ')') {
                return fail(at);
            }
            at++;
            return inner;
        }

        private int readWord(int depth, boolean isBound) {
            int begin = at;
            int end = wordEnd();
            if (isWord(begin, end, "all")) {
                return readBinder(Forms.ALL, end, depth, isBound);
            }
            if (isWord(begin, end, "some")) {
                return readBinder(Forms.SOME, end, depth, isBound);
            }
            if (end - begin == 1) {
                return readShort(byteAt(begin));
            }
            boolean isX = isWord(begin, end, "fx") || isWord(begin, end, "gx");
            if (!isX || !isBound || !mayTakeSign(begin)) {
                return fail(begin);
            }
            at = end;
            return forms.makeAtom(letterOf(byteAt(begin)), Forms.X);
        }

        private int readBinder(int kind, int end, int depth, boolean isBound) {
            if (isBound) {
                return fail(at);
            }
            if (!mayGoDeeper(depth) || !mayTakeSign(at)) {
                return NONE;
            }
            at = end;
            int body = readUnit(depth + 1, true);
            return fault == NONE ? forms.makeBinder(kind, body, things) : NONE;
        }

        /** A word of one letter: p, q, r, s, or f or g with a digit right behind it. */
        private int readShort(int sign) {
            int letter = letterOf(sign);
            if (letter == NONE) {
                return fail(at);
            }
            if (letter < Forms.LONE_LETTERS) {
                if (!mayTakeSign(at)) {
                    return NONE;
                }
                at++;
                return forms.makeAtom(letter, 0);
            }
            int digit = byteAt(at + 1) - '0';
            if (digit < 0 || digit > 9) {
                return fail(at);
            }
            if (!mayTakeSign(at)) {
                return NONE;
            }
            if (digit >= things) {
                return fail(at + 1);
            }
            at += 2;
            return forms.makeAtom(letter, digit);
        }

        private static int letterOf(int sign) {
            switch (sign) {
                case 'p':
                    return 0;
                case 'q':
                    return 1;
                case 'r':
                    return 2;
                case 's':
                    return 3;
                case 'f':
                    return 4;
                case 'g':
                    return 5;
                default:
                    return NONE;
            }
        }

        private int join(int kind, int left, int right) {
            return fault == NONE ? forms.make(kind, left, right) : NONE;
        }

        private boolean mayGoDeeper(int depth) {
            if (depth >= DEEPEST) {
                fail(at);
                return false;
            }
            return true;
        }

        private boolean mayTakeSign(int begin) {
            if (signs >= MOST_SIGNS) {
                fail(begin);
                return false;
            }
            signs++;
            return true;
        }

        /** The first fault alone counts. */
        private int fail(int position) {
            if (fault == NONE) {
                fault = position;
            }
            return NONE;
        }

        /** The next byte that is no blank; NONE at the end and behind a fault, so that all reading stops there. */
        private int peek() {
            for (int i = 0; i < MOST_BYTES && byteAt(at) == ' '; i++) {
                at++;
            }
            return fault == NONE ? byteAt(at) : NONE;
        }

        private int byteAt(int position) {
            return position >= 0 && position < size && position < MOST_BYTES ? tape[position] & 255 : NONE;
        }

        private boolean isLetter(int position) {
            int sign = byteAt(position);
            return sign >= 'a' && sign <= 'z';
        }

        private int wordEnd() {
            int end = at;
            for (int i = 0; i < MOST_BYTES && isLetter(end); i++) {
                end++;
            }
            return end;
        }

        private boolean isWord(int begin, int end, String word) {
            if (end - begin != word.length()) {
                return false;
            }
            for (int i = 0; i < word.length(); i++) {
                if (byteAt(begin + i) != word.charAt(i)) {
                    return false;
                }
            }
            return true;
        }
    }

    /** What holds in which worlds. A row has a bit for each world. */
    private static final class Models {
        private final Books books;
        private final long[] all = new long[Books.WORDS];
        private final long[] two = new long[Books.WORDS];
        private final long[] three = new long[Books.WORDS];
        private final int[] members = new int[MOST_IN_SET];
        /** A bit for each subset of a set of at most 14. */
        private final long[] together = new long[(1 << MOST_IN_SET) / 64];

        Models(Books books) {
            this.books = books;
        }

        int size(int formula) {
            int result = 0;
            for (int word = 0; word < books.words(); word++) {
                result += Long.bitCount(books.truthOf(formula, word));
            }
            return result;
        }

        int truthsIn(int world) {
            int result = 0;
            for (int formula = 0; formula < books.formulas; formula++) {
                if (books.isTrue(formula, world)) {
                    result++;
                }
            }
            return result;
        }

        /** The worlds in which all formulas of a set hold. */
        private void gather(int set, long[] row) {
            Arrays.fill(row, -1L);
            for (int formula = 0; formula < books.formulas; formula++) {
                if ((set >> formula & 1) != 0) {
                    narrow(row, formula, row);
                }
            }
        }

        private void narrow(long[] from, int formula, long[] to) {
            for (int word = 0; word < books.words(); word++) {
                to[word] = from[word] & books.truthOf(formula, word);
            }
        }

        private boolean isEmpty(long[] row) {
            return leastOf(row) == NONE;
        }

        private int leastOf(long[] row) {
            for (int word = 0; word < books.words(); word++) {
                if (row[word] != 0) {
                    return word * 64 + Long.numberOfTrailingZeros(row[word]);
                }
            }
            return NONE;
        }

        private int leastOutside(long[] row, int formula) {
            for (int word = 0; word < books.words(); word++) {
                long outside = row[word] & ~books.truthOf(formula, word);
                if (outside != 0) {
                    return word * 64 + Long.numberOfTrailingZeros(outside);
                }
            }
            return NONE;
        }

        int leastWorld(int set) {
            gather(set, all);
            return leastOf(all);
        }

        /** The least world in which a set holds and a formula does not. */
        int leastBreach(int set, int formula) {
            gather(set, all);
            return leastOutside(all, formula);
        }

        int idleIn(int told) {
            int result = 0;
            for (int formula = 0; formula < books.formulas; formula++) {
                int bit = 1 << formula;
                if ((told & bit) != 0 && leastBreach(told & ~bit, formula) == NONE) {
                    result |= bit;
                }
            }
            return result;
        }

        int alikeTo(int formula) {
            int result = 0;
            for (int other = 0; other < books.formulas; other++) {
                if (holdAlike(formula, other)) {
                    result |= 1 << other;
                }
            }
            return result;
        }

        private boolean holdAlike(int formula, int other) {
            for (int word = 0; word < books.words(); word++) {
                if (books.truthOf(formula, word) != books.truthOf(other, word)) {
                    return false;
                }
            }
            return true;
        }

        private int listMembers(int set) {
            int count = 0;
            for (int formula = 0; formula < books.formulas && count < MOST_IN_SET; formula++) {
                if ((set >> formula & 1) != 0) {
                    members[count] = formula;
                    count++;
                }
            }
            return count;
        }

        /** Which of the listed members hold in a world, a bit for each by its place in the list. */
        private int membersIn(int world, int count) {
            int result = 0;
            for (int i = 0; i < count && i < MOST_IN_SET; i++) {
                if (books.isTrue(members[i], world)) {
                    result |= 1 << i;
                }
            }
            return result;
        }

        /** Formulas from places in the list; the list ascends, so the least places are the least formulas. */
        private int formulasOf(int places) {
            int result = 0;
            for (int i = 0; i < MOST_IN_SET; i++) {
                if ((places >> i & 1) != 0) {
                    result |= 1 << members[i];
                }
            }
            return result;
        }

        private static boolean isBetter(int places, int best) {
            int more = Integer.bitCount(places) - Integer.bitCount(best);
            return more < 0 || more == 0 && places < best;
        }

        /** The best set to withdraw is just what fails in some world. */
        int fewestFailing(int set) {
            int count = listMembers(set);
            int whole = (1 << count) - 1;
            int best = whole;
            for (int world = 0; world < books.worldCount(); world++) {
                int failing = whole & ~membersIn(world, count);
                if (isBetter(failing, best)) {
                    best = failing;
                }
            }
            return formulasOf(best);
        }

        /** The fewest formulas of a set that hold together in no world; 0 without. */
        int leastClash(int set) {
            int count = listMembers(set);
            markTogether(count);
            int best = NONE;
            for (int places = 1; places < 1 << count; places++) {
                boolean isClash = (together[places >> 6] >>> (places & 63) & 1) == 0;
                if (isClash && (best == NONE || isBetter(places, best))) {
                    best = places;
                }
            }
            return best == NONE ? 0 : formulasOf(best);
        }

        /** Marks each set of places that holds in some world: what holds in one, and all within that. */
        private void markTogether(int count) {
            Arrays.fill(together, 0L);
            for (int world = 0; world < books.worldCount(); world++) {
                int places = membersIn(world, count);
                together[places >> 6] |= 1L << (places & 63);
            }
            for (int i = 0; i < count; i++) {
                if (i < 6) {
                    markWithin(i);
                } else {
                    markAcross(1 << (i - 6));
                }
            }
        }

        private void markWithin(int place) {
            long without = ~Forms.COLUMNS[place];
            for (int word = 0; word < together.length; word++) {
                together[word] |= together[word] >>> (1 << place) & without;
            }
        }

        private void markAcross(int step) {
            for (int word = 0; word < together.length; word++) {
                if ((word & step) != 0) {
                    together[word ^ step] |= together[word];
                }
            }
        }

        /** The fewest formulas, three at most, with which a told set proves a goal without contradiction. */
        int fewestMore(int told, int goal) {
            gather(told, all);
            if (isEmpty(all)) {
                return NONE;
            }
            if (leastOutside(all, goal) == NONE) {
                return 0;
            }
            int result = oneMore(all, goal, books.formulas);
            if (result == NONE) {
                result = twoMore(all, goal, books.formulas);
            }
            return result == NONE ? threeMore(goal) : result;
        }

        private boolean isOpenTo(int formula, int goal) {
            return books.nodeOf(formula) != books.nodeOf(goal);
        }

        private int oneMore(long[] row, int goal, int below) {
            for (int a = 0; a < below; a++) {
                if (isOpenTo(a, goal) && provesWith(row, a, goal)) {
                    return 1 << a;
                }
            }
            return NONE;
        }

        /** Whether a row narrowed by a formula has worlds, all of the goal; asked so often that it stops early. */
        private boolean provesWith(long[] row, int formula, int goal) {
            long some = 0;
            for (int word = 0; word < books.words(); word++) {
                long left = row[word] & books.truthOf(formula, word);
                if ((left & ~books.truthOf(goal, word)) != 0) {
                    return false;
                }
                some |= left;
            }
            return some != 0;
        }

        private int twoMore(long[] row, int goal, int below) {
            for (int b = 0; b < below; b++) {
                if (isOpenTo(b, goal)) {
                    narrow(row, b, two);
                    int rest = isEmpty(two) ? NONE : oneMore(two, goal, b);
                    if (rest != NONE) {
                        return rest | 1 << b;
                    }
                }
            }
            return NONE;
        }

        private int threeMore(int goal) {
            for (int c = 0; c < books.formulas; c++) {
                if (isOpenTo(c, goal)) {
                    narrow(all, c, three);
                    int rest = isEmpty(three) ? NONE : twoMore(three, goal, c);
                    if (rest != NONE) {
                        return rest | 1 << c;
                    }
                }
            }
            return NONE;
        }
    }

    /** Looks whether lines follow, and what they stand on. */
    private static final class Auditor {
        /** How many premises each rule asks; EACH asks as many as things. */
        private static final int[] ASKED = {0, 0, 2, 1, 1, 1, 1, 2, 1, 3, 2, 1, 0, 1, 2, 1};

        long honest;
        private long sound;
        private long open;
        private long stale;
        private final Forms forms;
        private final Books books;

        Auditor(Forms forms, Books books) {
            this.forms = forms;
            this.books = books;
        }

        /** Looks at all lines as they are now. */
        void audit() {
            honest = 0;
            sound = 0;
            open = 0;
            stale = staleIf(NONE, 0);
            long assumed = linesOf(ASSUMED);
            for (int line = 0; line < books.lines; line++) {
                long bit = 1L << line;
                if (isHonest(line)) {
                    honest |= bit;
                    sound |= standsOnSound(line) ? bit : 0L;
                }
                if ((books.rests[line] & assumed) != 0) {
                    open |= bit;
                }
            }
        }

        private long linesOf(int rule) {
            long result = 0;
            for (int line = 0; line < books.lines; line++) {
                if (books.ofLine(line, Books.RULE) == rule) {
                    result |= 1L << line;
                }
            }
            return result;
        }

        /** The lines that are stale if a customer (NONE: no one) is told other formulas than now. */
        long staleIf(int customer, int told) {
            long unbelieved = 0;
            for (int line = 0; line < books.lines; line++) {
                int believer = books.ofLine(line, Books.PREMISE);
                int formulas = believer == customer ? told : books.toldTo(believer);
                boolean isBelief = books.ofLine(line, Books.RULE) == BELIEF;
                if (isBelief && !books.isAmong(formulas, books.nodeOfLine(line))) {
                    unbelieved |= 1L << line;
                }
            }
            long result = 0;
            for (int line = 0; line < books.lines; line++) {
                if ((books.rests[line] & unbelieved) != 0) {
                    result |= 1L << line;
                }
            }
            return result;
        }

        private boolean standsOnSound(int line) {
            for (int i = 0; i < 3; i++) {
                int premise = books.premiseOf(line, i);
                if (premise != NONE && (sound >>> premise & 1) == 0) {
                    return false;
                }
            }
            return true;
        }

        private boolean isHonest(int line) {
            int rule = books.ofLine(line, Books.RULE);
            return books.hasRule(books.ofLine(line, Books.HOUSE), rule)
                    && premisesOf(line) == asked(rule)
                    && fits(line, rule);
        }

        private int premisesOf(int line) {
            int result = 0;
            for (int i = 0; i < 3; i++) {
                if (books.premiseOf(line, i) != NONE) {
                    result++;
                }
            }
            return result;
        }

        private int asked(int rule) {
            if (rule == EACH) {
                return books.things;
            }
            return rule >= 0 && rule < ASKED.length ? ASKED[rule] : NONE;
        }

        private boolean fits(int line, int rule) {
            int said = books.nodeOfLine(line);
            int firstLine = books.premiseOf(line, 0);
            int a = books.nodeOfLine(firstLine);
            int b = books.nodeOfLine(books.premiseOf(line, 1));
            switch (rule) {
                case BELIEF:
                    return books.isAmong(books.toldTo(books.ofLine(line, Books.PREMISE)), said);
                case ASSUMED:
                    return true;
                case CASES:
                    return fitsCases(a, b, books.nodeOfLine(books.premiseOf(line, 2)), said);
                case GIVEN:
                    return books.ofLine(firstLine, Books.RULE) == ASSUMED && forms.isMade(said, Forms.IF, a, b);
                case ONE:
                    return forms.kindOf(a) == Forms.ALL && isPlaced(a, said);
                case EACH:
                    return forms.kindOf(said) == Forms.ALL && areEach(line, said);
                case THERE:
                    return forms.kindOf(said) == Forms.SOME && isPlaced(said, a);
                case BOUGHT:
                    return a == said && books.ofLine(firstLine, Books.HOUSE) != books.ofLine(line, Books.HOUSE);
                default:
                    return fitsPlain(rule, a, b, said);
            }
        }

        /** The rules that ask only what the premises and the line say. */
        private boolean fitsPlain(int rule, int a, int b, int said) {
            switch (rule) {
                case BOTH:
                    return forms.isMade(said, Forms.AND, a, b);
                case LEFT:
                    return forms.kindOf(a) == Forms.AND && forms.firstOf(a) == said;
                case RIGHT:
                    return forms.kindOf(a) == Forms.AND && forms.secondOf(a) == said;
                case FIRST:
                    return forms.kindOf(said) == Forms.OR && forms.firstOf(said) == a;
                case LAST:
                    return forms.kindOf(said) == Forms.OR && forms.secondOf(said) == a;
                case ON:
                    return forms.isMade(b, Forms.IF, a, said);
                case TWICE:
                    return forms.kindOf(a) == Forms.NOT && forms.isMade(forms.firstOf(a), Forms.NOT, said, NONE);
                case ABSURD:
                    return forms.isMade(b, Forms.NOT, a, NONE);
                default:
                    return false;
            }
        }

        private boolean fitsCases(int either, int ifFirst, int ifSecond, int said) {
            return forms.kindOf(either) == Forms.OR
                    && forms.isMade(ifFirst, Forms.IF, forms.firstOf(either), said)
                    && forms.isMade(ifSecond, Forms.IF, forms.secondOf(either), said);
        }

        private boolean isPlaced(int binder, int node) {
            for (int thing = 0; thing < books.things; thing++) {
                if (forms.placedOf(binder, thing) == node) {
                    return true;
                }
            }
            return false;
        }

        private boolean areEach(int line, int binder) {
            for (int thing = 0; thing < books.things; thing++) {
                if (books.nodeOfLine(books.premiseOf(line, thing)) != forms.placedOf(binder, thing)) {
                    return false;
                }
            }
            return true;
        }

        /** Of an audited line: 0 honest, 1 sound, 2 open, 3 stale, 4 saved. */
        boolean tells(int line, int what) {
            switch (what) {
                case 0:
                    return (honest >>> line & 1) != 0;
                case 1:
                    return (sound >>> line & 1) != 0;
                case 2:
                    return (open >>> line & 1) != 0;
                case 3:
                    return (stale >>> line & 1) != 0;
                default:
                    return (stale >>> line & 1) != 0 && isSaved(line);
            }
        }

        private boolean isSaved(int line) {
            long good = sound & ~open & ~stale;
            for (int other = 0; other < books.lines; other++) {
                if ((good >>> other & 1) != 0 && books.nodeOfLine(other) == books.nodeOfLine(line)) {
                    return true;
                }
            }
            return false;
        }

        int firstWrong() {
            for (int line = 0; line < books.lines; line++) {
                if ((honest >>> line & 1) == 0) {
                    return line;
                }
            }
            return NONE;
        }

        int costOf(int line) {
            int signs = forms.signsOf(books.nodeOfLine(line));
            return books.costOf(books.ofLine(line, Books.HOUSE), books.ofLine(line, Books.RULE), signs);
        }

        /** What all lines on which a line stands cost, each once. */
        int costOfAll(int line) {
            long needed = line >= 0 && line < books.lines ? books.needs[line] : 0L;
            int result = 0;
            for (int other = 0; other < books.lines; other++) {
                if ((needed >>> other & 1) != 0) {
                    result += costOf(other);
                }
            }
            return result;
        }

        int boughtInRow(int line) {
            int result = 0;
            int at = line;
            for (int i = 0; i < MOST_LINES && books.ofLine(at, Books.RULE) == BOUGHT; i++) {
                result++;
                at = books.premiseOf(at, 0);
            }
            return result;
        }
    }

    /** Seeks the cheapest proof of a goal. */
    private static final class Prover {
        private static final int MOST_LOOKED = 40;
        private static final int MOST_ASSUMED = 3;
        /** Four steps at most for each formula, and CASES for each pair of an OR and an IF. */
        private static final int MOST_STEPS = 4 * MOST_LOOKED + MOST_LOOKED * MOST_LOOKED / 4;
        private static final int STEP_FIELDS = 5;
        private static final int DEAREST = 99999;
        /** Three of them and a line are still an int. */
        private static final int NO_COST = 1 << 28;
        private static final int DEEPEST = 48;

        private final Forms forms;
        private final Books books;
        private final int[] looked = new int[MOST_LOOKED];
        private final int[] sizes = new int[MOST_LOOKED];
        /** What each rule costs in the house that is asked; NO_COST of those it has not. */
        private final int[] charges = new int[RULES];
        private final int[] assumed = new int[MOST_ASSUMED];
        /** Steps: a rule, the place of what it proves, places of premises (GIVEN: of B, and which is assumed). */
        private final int[] steps = new int[MOST_STEPS * STEP_FIELDS];
        /** The least cost of each formula looked at, for each set of those assumed. */
        private final int[] costs = new int[(1 << MOST_ASSUMED) * MOST_LOOKED];
        private int lookedCount;
        private int assumedCount;
        private int stepCount;
        private int told;
        private int perSign;

        Prover(Forms forms, Books books) {
            this.forms = forms;
            this.books = books;
        }

        /** Lists what is looked at for a customer's goal, and all steps among it. */
        void prepare(int customer, int goal) {
            told = books.toldTo(customer);
            lookedCount = 0;
            assumedCount = 0;
            stepCount = 0;
            lookAt(goal, 0);
            for (int formula = 0; formula < books.formulas; formula++) {
                if ((told >> formula & 1) != 0) {
                    lookAt(books.nodeOf(formula), 0);
                }
            }
            for (int place = 0; place < lookedCount; place++) {
                listAssumed(looked[place]);
            }
            for (int place = 0; place < lookedCount; place++) {
                listSteps(place);
            }
        }

        /** What was looked at before has its parts listed already, or there is no room left. */
        private void lookAt(int node, int depth) {
            if (lookedCount >= MOST_LOOKED || depth > DEEPEST || node == NONE || placeOf(node) != NONE) {
                return;
            }
            looked[lookedCount] = node;
            sizes[lookedCount] = forms.signsOf(node);
            lookedCount++;
            int kind = forms.kindOf(node);
            if (kind == Forms.ALL || kind == Forms.SOME) {
                for (int thing = 0; thing < books.things; thing++) {
                    lookAt(forms.placedOf(node, thing), depth + 1);
                }
            } else if (kind != Forms.ATOM) {
                lookAt(forms.firstOf(node), depth + 1);
                lookAt(forms.secondOf(node), depth + 1);
            }
        }

        private int placeOf(int node) {
            for (int place = 0; place < lookedCount; place++) {
                if (looked[place] == node) {
                    return place;
                }
            }
            return NONE;
        }

        private void listAssumed(int node) {
            if (forms.kindOf(node) != Forms.IF || assumedCount >= MOST_ASSUMED) {
                return;
            }
            int place = placeOf(forms.firstOf(node));
            if (place != NONE && slotOf(place) == NONE) {
                assumed[assumedCount] = place;
                assumedCount++;
            }
        }

        private int slotOf(int place) {
            for (int slot = 0; slot < assumedCount; slot++) {
                if (assumed[slot] == place) {
                    return slot;
                }
            }
            return NONE;
        }

        private void addStep(int rule, int proves, int a, int b, int c) {
            if (proves == NONE || stepCount >= MOST_STEPS) {
                return;
            }
            int at = stepCount * STEP_FIELDS;
            steps[at] = rule;
            steps[at + 1] = proves;
            steps[at + 2] = a;
            steps[at + 3] = b;
            steps[at + 4] = c;
            stepCount++;
        }

        /** The steps in which a formula looked at is the one that is put together or taken apart. */
        private void listSteps(int place) {
            int node = looked[place];
            int a = placeOf(forms.firstOf(node));
            int b = placeOf(forms.secondOf(node));
            switch (forms.kindOf(node)) {
                case Forms.NOT:
                    int inner = forms.firstOf(node);
                    if (forms.kindOf(inner) == Forms.NOT) {
                        addStep(TWICE, placeOf(forms.firstOf(inner)), place, NONE, NONE);
                    }
                    break;
                case Forms.AND:
                    listAndSteps(place, a, b);
                    break;
                case Forms.OR:
                    listOrSteps(place, a, b);
                    break;
                case Forms.IF:
                    listIfSteps(place, a, b);
                    break;
                case Forms.ALL:
                    listAllSteps(place);
                    break;
                case Forms.SOME:
                    listSomeSteps(place);
                    break;
                default:
                    break;
            }
        }

        private void listAndSteps(int place, int a, int b) {
            if (a != NONE && b != NONE) {
                addStep(BOTH, place, a, b, NONE);
            }
            addStep(LEFT, a, place, NONE, NONE);
            addStep(RIGHT, b, place, NONE, NONE);
        }

        private void listOrSteps(int place, int a, int b) {
            if (a != NONE) {
                addStep(FIRST, place, a, NONE, NONE);
            }
            if (b != NONE) {
                addStep(LAST, place, b, NONE, NONE);
            }
            int left = forms.firstOf(looked[place]);
            int right = forms.secondOf(looked[place]);
            for (int ifLeft = 0; ifLeft < lookedCount; ifLeft++) {
                int node = looked[ifLeft];
                if (forms.kindOf(node) == Forms.IF && forms.firstOf(node) == left) {
                    int goal = forms.secondOf(node);
                    int ifRight = placeOfIf(right, goal);
                    if (ifRight != NONE) {
                        addStep(CASES, placeOf(goal), place, ifLeft, ifRight);
                    }
                }
            }
        }

        private int placeOfIf(int first, int second) {
            for (int place = 0; place < lookedCount; place++) {
                if (forms.isMade(looked[place], Forms.IF, first, second)) {
                    return place;
                }
            }
            return NONE;
        }

        private void listIfSteps(int place, int a, int b) {
            if (a == NONE || b == NONE) {
                return;
            }
            addStep(ON, b, a, place, NONE);
            int slot = slotOf(a);
            if (slot != NONE) {
                addStep(GIVEN, place, b, slot, NONE);
            }
        }

        private void listAllSteps(int place) {
            int first = placeOf(forms.placedOf(looked[place], 0));
            int second = placeOf(forms.placedOf(looked[place], 1));
            int third = placeOf(forms.placedOf(looked[place], 2));
            addStep(ONE, first, place, NONE, NONE);
            addStep(ONE, second, place, NONE, NONE);
            addStep(ONE, third, place, NONE, NONE);
            boolean areThere = first != NONE
                    && (books.things < 2 || second != NONE)
                    && (books.things < 3 || third != NONE);
            if (areThere) {
                addStep(EACH, place, first, second, third);
            }
        }

        private void listSomeSteps(int place) {
            for (int thing = 0; thing < books.things; thing++) {
                int part = placeOf(forms.placedOf(looked[place], thing));
                if (part != NONE) {
                    addStep(THERE, place, part, NONE, NONE);
                }
            }
        }

        /** The cost of the prepared goal in a house, or NONE. */
        int costIn(int house) {
            for (int rule = 0; rule < RULES; rule++) {
                charges[rule] = books.hasRule(house, rule) ? books.priceOf(house, rule) : NO_COST;
            }
            perSign = books.priceOf(house, PER_SIGN);
            boolean discharges = charges[GIVEN] != NO_COST && charges[ASSUMED] != NO_COST;
            int sets = discharges ? 1 << assumedCount : 1;
            // GIVEN asks for costs with more assumed, so these are settled first.
            for (int set = sets - 1; set >= 0; set--) {
                settle(set);
            }
            return costs[0] == NO_COST ? NONE : costs[0];
        }

        /** A cheapest tree has no formula twice on a branch, so as many rounds as formulas are enough. */
        private void settle(int set) {
            for (int place = 0; place < lookedCount; place++) {
                costs[set * MOST_LOOKED + place] = costAlone(set, place);
            }
            boolean isChanged = true;
            for (int round = 0; round <= MOST_LOOKED && isChanged; round++) {
                isChanged = false;
                for (int step = 0; step < stepCount; step++) {
                    if (improve(set, steps[step * STEP_FIELDS + 1], costOfStep(set, step))) {
                        isChanged = true;
                    }
                }
                int absurd = costOfAbsurd(set);
                for (int place = 0; place < lookedCount; place++) {
                    if (improve(set, place, limited(lineCost(ABSURD, place) + absurd))) {
                        isChanged = true;
                    }
                }
            }
        }

        private boolean improve(int set, int place, int cost) {
            int at = set * MOST_LOOKED + place;
            if (at < 0 || at >= costs.length || cost >= costs[at]) {
                return false;
            }
            costs[at] = cost;
            return true;
        }

        private int costAlone(int set, int place) {
            int result = NO_COST;
            if (books.isAmong(told, looked[place])) {
                result = lineCost(BELIEF, place);
            }
            int slot = slotOf(place);
            if (slot != NONE && (set >> slot & 1) != 0) {
                result = Math.min(result, lineCost(ASSUMED, place));
            }
            return result;
        }

        private int lineCost(int rule, int place) {
            boolean isThere = rule >= 0 && rule < RULES && place >= 0 && place < lookedCount;
            if (!isThere || charges[rule] == NO_COST) {
                return NO_COST;
            }
            return charges[rule] + sizes[place] * perSign;
        }

        private int costAt(int set, int place) {
            int at = set * MOST_LOOKED + place;
            return at >= 0 && at < costs.length ? costs[at] : NO_COST;
        }

        private static int limited(int cost) {
            return cost > DEAREST ? NO_COST : cost;
        }

        private int costOfStep(int set, int step) {
            int at = step * STEP_FIELDS;
            int rule = steps[at];
            int line = lineCost(rule, steps[at + 1]);
            if (line == NO_COST) {
                return NO_COST;
            }
            if (rule == GIVEN) {
                return costOfGiven(set, line, steps[at + 2], steps[at + 3]);
            }
            int total = line;
            for (int i = 2; i < STEP_FIELDS; i++) {
                if (steps[at + i] != NONE) {
                    total += costAt(set, steps[at + i]);
                }
            }
            return limited(total);
        }

        private int costOfGiven(int set, int line, int proved, int slot) {
            if (slot < 0 || slot >= assumedCount || charges[ASSUMED] == NO_COST) {
                return NO_COST;
            }
            return limited(line + lineCost(ASSUMED, assumed[slot]) + costAt(set | 1 << slot, proved));
        }

        /** The least cost of a formula and its opposite together. */
        private int costOfAbsurd(int set) {
            int result = NO_COST;
            for (int place = 0; place < lookedCount; place++) {
                if (forms.kindOf(looked[place]) == Forms.NOT) {
                    int opposite = placeOf(forms.firstOf(looked[place]));
                    if (opposite != NONE) {
                        result = Math.min(result, costAt(set, place) + costAt(set, opposite));
                    }
                }
            }
            return result;
        }

        /** The least rule whose line and premises cost just what the goal does. */
        int lastRuleIn(int house) {
            int cost = costIn(house);
            if (cost == NONE) {
                return NONE;
            }
            if (costAlone(0, 0) == cost) {
                return BELIEF;
            }
            int result = ABSURD;
            for (int step = 0; step < stepCount; step++) {
                boolean provesGoal = steps[step * STEP_FIELDS + 1] == 0;
                if (provesGoal && costOfStep(0, step) == cost) {
                    result = Math.min(result, steps[step * STEP_FIELDS]);
                }
            }
            return result;
        }

        int cheapestHouse() {
            int result = NONE;
            int least = NONE;
            for (int other = 0; other < HOUSES; other++) {
                int cost = costIn(other);
                if (cost != NONE && (least == NONE || cost < least)) {
                    least = cost;
                    result = other;
                }
            }
            return result;
        }

        /** What a house pays to buy the goal's proof from the cheapest of the others. */
        int costResold(int house) {
            if (!books.hasRule(house, BOUGHT) || lookedCount == 0) {
                return NONE;
            }
            int least = NONE;
            for (int other = 0; other < HOUSES; other++) {
                int cost = other == house ? NONE : costIn(other);
                if (cost != NONE && (least == NONE || cost < least)) {
                    least = cost;
                }
            }
            return least == NONE ? NONE : least + books.costOf(house, BOUGHT, sizes[0]);
        }
    }

    /** Receipts: what is paid back, and by whom; the lines are audited before a law is asked. */
    private static final class Till {
        private final Books books;
        private final Auditor auditor;

        Till(Books books, Auditor auditor) {
            this.books = books;
            this.auditor = auditor;
        }

        /** The receipts that are paid back by a law. */
        int refunded(int law) {
            int result = 0;
            for (int receipt = 0; receipt < books.receipts; receipt++) {
                if (!books.isVoid(receipt) && isRefunded(receipt, law)) {
                    result |= 1 << receipt;
                }
            }
            return result;
        }

        private boolean isRefunded(int receipt, int law) {
            int line = books.ofReceipt(receipt, Books.SOLD);
            return (law & 1) != 0 && !auditor.tells(line, 0)
                    || (law & 2) != 0 && !auditor.tells(line, 1)
                    || (law & 4) != 0 && auditor.tells(line, 3) && !auditor.tells(line, 4)
                    || (law & 8) != 0 && auditor.tells(line, 2)
                    || (law & 16) != 0 && wasSoldBefore(receipt);
        }

        private boolean wasSoldBefore(int receipt) {
            int said = books.nodeOfLine(books.ofReceipt(receipt, Books.SOLD));
            int buyer = books.ofReceipt(receipt, Books.BUYER);
            for (int other = 0; other < books.receipts; other++) {
                if (!books.isVoid(other) && isBefore(other, receipt)
                        && books.ofReceipt(other, Books.BUYER) == buyer
                        && books.nodeOfLine(books.ofReceipt(other, Books.SOLD)) == said) {
                    return true;
                }
            }
            return false;
        }

        private boolean isBefore(int other, int receipt) {
            int days = books.ofReceipt(other, Books.DAY) - books.ofReceipt(receipt, Books.DAY);
            return days < 0 || days == 0 && other < receipt;
        }

        private int sellerOf(int receipt) {
            return books.ofLine(books.ofReceipt(receipt, Books.SOLD), Books.HOUSE);
        }

        int owedBy(int house, int buyer, int law) {
            int back = refunded(law);
            int result = 0;
            for (int receipt = 0; receipt < books.receipts; receipt++) {
                boolean isHis = buyer == NONE || books.ofReceipt(receipt, Books.BUYER) == buyer;
                if ((back >> receipt & 1) != 0 && isHis && sellerOf(receipt) == house) {
                    result += books.ofReceipt(receipt, Books.COINS);
                }
            }
            return result;
        }

        int gainOf(int house, int law) {
            int back = refunded(law);
            int result = 0;
            for (int receipt = 0; receipt < books.receipts; receipt++) {
                if (!books.isVoid(receipt) && (back >> receipt & 1) == 0) {
                    int coins = books.ofReceipt(receipt, Books.COINS);
                    if (sellerOf(receipt) == house) {
                        result += coins;
                    }
                    if (books.ofReceipt(receipt, Books.BUYER) == CUSTOMERS + house) {
                        result -= coins;
                    }
                }
            }
            return result;
        }

        int dearerOnes() {
            int result = 0;
            for (int receipt = 0; receipt < books.receipts; receipt++) {
                int line = books.ofReceipt(receipt, Books.SOLD);
                boolean isBought = books.ofLine(line, Books.RULE) == BOUGHT;
                if (isBought && books.ofReceipt(receipt, Books.COINS) > auditor.costOfAll(line)) {
                    result |= 1 << receipt;
                }
            }
            return result;
        }

        int coinsOfAll() {
            int result = 0;
            for (int receipt = 0; receipt < books.receipts; receipt++) {
                if (!books.isVoid(receipt)) {
                    result += books.ofReceipt(receipt, Books.COINS);
                }
            }
            return result;
        }
    }
}
