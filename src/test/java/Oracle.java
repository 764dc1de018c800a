import java.util.ArrayList;
import java.util.Arrays;
import java.util.BitSet;
import java.util.HashMap;
import java.util.LinkedHashMap;
import java.util.List;
import java.util.Map;
import java.util.NoSuchElementException;

/** A slow second shop: formulas are texts, worlds are tried one by one, proofs by trying all premises. */
final class Oracle {
    /** A formula: a sign (an atom as it is told), its parts, and its text with all brackets. */
    record Tree(String sign, List<Tree> parts, String text) {
        Tree(String sign, List<Tree> parts) {
            this(sign, parts, textOf(sign, parts));
        }

        private static String textOf(String sign, List<Tree> parts) {
            if (parts.isEmpty()) {
                return sign;
            }
            if (parts.size() == 1) {
                return sign + "(" + parts.get(0).text + ")";
            }
            return "(" + parts.get(0).text + sign + parts.get(1).text + ")";
        }

        int signs() {
            int n = 1;
            for (Tree part : parts) {
                n += part.signs();
            }
            return n;
        }

        Tree with(int thing) {
            if (parts.isEmpty()) {
                return new Tree(sign.replace('x', (char) ('0' + thing)), parts);
            }
            List<Tree> placed = new ArrayList<>();
            for (Tree part : parts) {
                placed.add(part.with(thing));
            }
            return new Tree(sign, placed);
        }

        boolean isBinder() {
            return sign.equals("all") || sign.equals("some");
        }

        Tree part(int i) {
            return parts.get(i);
        }
    }

    record Line(int house, int formula, int rule, int[] told) {
        List<Integer> premises() {
            List<Integer> list = new ArrayList<>();
            for (int p : told) {
                if (rule != 0 && p != -1) {
                    list.add(p);
                }
            }
            return list;
        }
    }

    record Receipt(int line, int buyer, int coins, int day) { }

    /** All that the image keeps. */
    static final class State {
        int things = 2;
        List<Tree> formulas = new ArrayList<>();
        int[] rules = {65535, 65535, 65535};
        int[][] prices = new int[3][17];
        boolean[][] told = new boolean[4][30];
        List<Line> lines = new ArrayList<>();
        List<Receipt> receipts = new ArrayList<>();
        BitSet voids = new BitSet();

        State copy() {
            State c = new State();
            c.things = things;
            c.formulas = new ArrayList<>(formulas);
            c.rules = rules.clone();
            for (int h = 0; h < 3; h++) {
                c.prices[h] = prices[h].clone();
            }
            for (int k = 0; k < 4; k++) {
                c.told[k] = told[k].clone();
            }
            c.lines = new ArrayList<>(lines);
            c.receipts = new ArrayList<>(receipts);
            c.voids = (BitSet) voids.clone();
            return c;
        }
    }

    State s = new State();
    private State image;
    private final StringBuilder tape = new StringBuilder();
    private int fault = -1;

    Oracle() {
        for (int[] row : s.prices) {
            Arrays.fill(row, 10);
            row[16] = 1;
        }
    }

    // ---- texts

    int feed(int[] numbers) {
        if (tape.length() + 20 > 400) {
            return -1;
        }
        for (int n : numbers) {
            for (int i = 3; i >= 0; i--) {
                tape.append((char) (n >>> 8 * i & 255));
            }
        }
        return tape.length();
    }

    boolean end(int n) {
        if (n < 0 || n > tape.length()) {
            return false;
        }
        tape.setLength(n);
        return true;
    }

    int formula() {
        String text = tape.toString();
        tape.setLength(0);
        List<String> tokens = new ArrayList<>();
        fault = faultOf(text, s.things, tokens);
        if (fault != -1) {
            throw new IllegalArgumentException();
        }
        if (s.formulas.size() == 30) {
            throw new UnsupportedOperationException();
        }
        s.formulas.add(build(tokens));
        return s.formulas.size() - 1;
    }

    int fault() {
        return fault;
    }

    /** Reads with a stack of what is open; gathers the tokens of a right text. */
    static int faultOf(String text, int things, List<String> tokens) {
        StringBuilder open = new StringBuilder();
        boolean wantsUnit = true;
        int signs = 0;
        int at = 0;
        while (true) {
            while (at < text.length() && text.charAt(at) == ' ') {
                at++;
            }
            if (at == text.length()) {
                return wantsUnit || open.indexOf("(") >= 0 ? at : -1;
            }
            int stop = at + 1;
            if (isLetter(text.charAt(at))) {
                while (stop < text.length() && isLetter(text.charAt(stop))) {
                    stop++;
                }
            }
            String token = text.substring(at, stop);
            boolean within = open.indexOf("a") >= 0;
            boolean isOpening = List.of("-", "(", "all", "some", ">").contains(token);
            if (isOpening && open.length() == 8) {
                return at;
            }
            if (!token.equals("(") && !token.equals(")") && ++signs > 40) {
                return at;
            }
            if (wantsUnit) {
                switch (token) {
                    case "-": open.append('-'); break;
                    case "(": open.append('('); break;
                    case "all": case "some":
                        if (within) {
                            return at;
                        }
                        open.append('a');
                        break;
                    case "p": case "q": case "r": case "s":
                        wantsUnit = false;
                        break;
                    case "fx": case "gx":
                        if (!within) {
                            return at;
                        }
                        wantsUnit = false;
                        break;
                    case "f": case "g":
                        if (stop == text.length() || text.charAt(stop) < '0' || text.charAt(stop) > '9') {
                            return at;
                        }
                        if (text.charAt(stop) - '0' >= things) {
                            return stop;
                        }
                        token += text.charAt(stop);
                        stop++;
                        wantsUnit = false;
                        break;
                    default:
                        return at;
                }
            } else if (token.equals(")")) {
                while (open.length() > 0 && open.charAt(open.length() - 1) == '>') {
                    open.setLength(open.length() - 1);
                }
                if (open.length() == 0) {
                    return at;
                }
                open.setLength(open.length() - 1);
            } else if (token.equals(">")) {
                open.append('>');
                wantsUnit = true;
            } else if (token.equals("&") || token.equals("|")) {
                wantsUnit = true;
            } else {
                return at;
            }
            while (!wantsUnit && open.length() > 0 && "-a".indexOf(open.charAt(open.length() - 1)) >= 0) {
                open.setLength(open.length() - 1);
            }
            tokens.add(token);
            at = stop;
        }
    }

    private static boolean isLetter(char c) {
        return c >= 'a' && c <= 'z';
    }

    /** Splits at the sign that binds least: the first >, or the last |, or the last &. */
    static Tree build(List<String> tokens) {
        for (String sign : List.of(">", "|", "&")) {
            int depth = 0;
            int at = -1;
            for (int i = 0; i < tokens.size(); i++) {
                String token = tokens.get(i);
                depth += token.equals("(") ? 1 : token.equals(")") ? -1 : 0;
                boolean isIt = depth == 0 && token.equals(sign);
                if (isIt && !(sign.equals(">") && at >= 0)) {
                    at = i;
                }
            }
            if (at >= 0) {
                return new Tree(sign, List.of(build(tokens.subList(0, at)), build(tokens.subList(at + 1, tokens.size()))));
            }
        }
        String head = tokens.get(0);
        if (head.equals("(")) {
            return build(tokens.subList(1, tokens.size() - 1));
        }
        if (tokens.size() == 1) {
            return new Tree(head, List.of());
        }
        return new Tree(head, List.of(build(tokens.subList(1, tokens.size()))));
    }

    void things(int n) {
        if (n < 1 || n > 3) {
            throw new IllegalArgumentException();
        }
        if (!s.formulas.isEmpty()) {
            throw new IllegalStateException();
        }
        s.things = n;
    }

    // ---- what there is

    private void needFormula(int f) {
        if (f < 0 || f >= s.formulas.size()) {
            throw new IndexOutOfBoundsException();
        }
    }

    private void need(int n, int of) {
        if (n < 0 || n >= of) {
            throw new IndexOutOfBoundsException();
        }
    }

    private String text(int formula) {
        return s.formulas.get(formula).text();
    }

    int signs(int f) {
        needFormula(f);
        return s.formulas.get(f).signs();
    }

    boolean same(int f, int g) {
        needFormula(f);
        needFormula(g);
        return text(f).equals(text(g));
    }

    // ---- worlds

    private int worldCount() {
        return 16 << 2 * s.things;
    }

    private boolean eval(Tree t, int world) {
        switch (t.sign) {
            case "p": return (world & 1) != 0;
            case "q": return (world & 2) != 0;
            case "r": return (world & 4) != 0;
            case "s": return (world & 8) != 0;
            case "-": return !eval(t.part(0), world);
            case "&": return eval(t.part(0), world) && eval(t.part(1), world);
            case "|": return eval(t.part(0), world) || eval(t.part(1), world);
            case ">": return !eval(t.part(0), world) || eval(t.part(1), world);
            case "all":
                for (int i = 0; i < s.things; i++) {
                    if (!eval(t.part(0).with(i), world)) {
                        return false;
                    }
                }
                return true;
            case "some":
                for (int i = 0; i < s.things; i++) {
                    if (eval(t.part(0).with(i), world)) {
                        return true;
                    }
                }
                return false;
            default:
                int bit = 4 + (t.sign.charAt(0) == 'g' ? s.things : 0) + t.sign.charAt(1) - '0';
                return (world >> bit & 1) != 0;
        }
    }

    private final Map<String, BitSet> worldsOf = new HashMap<>();

    private BitSet worldsOf(int formula) {
        String key = s.things + text(formula);
        if (!worldsOf.containsKey(key)) {
            BitSet set = new BitSet();
            for (int w = 0; w < worldCount(); w++) {
                if (eval(s.formulas.get(formula), w)) {
                    set.set(w);
                }
            }
            worldsOf.put(key, set);
        }
        return worldsOf.get(key);
    }

    boolean holds(int f, int world) {
        needFormula(f);
        if (world < 0 || world >= worldCount()) {
            throw new IllegalArgumentException();
        }
        return eval(s.formulas.get(f), world);
    }

    int worlds(int f) {
        needFormula(f);
        return worldsOf(f).cardinality();
    }

    int truths(int world) {
        if (world < 0 || world >= worldCount()) {
            throw new IllegalArgumentException();
        }
        int n = 0;
        for (Tree t : s.formulas) {
            n += eval(t, world) ? 1 : 0;
        }
        return n;
    }

    private BitSet worldsOfAll(int bits) {
        BitSet set = new BitSet();
        set.set(0, worldCount());
        for (int f = 0; f < s.formulas.size(); f++) {
            if ((bits >> f & 1) != 0) {
                set.and(worldsOf(f));
            }
        }
        return set;
    }

    int beliefs(int c) {
        need(c, 4);
        int bits = 0;
        for (int f = 0; f < 30; f++) {
            bits |= s.told[c][f] ? 1 << f : 0;
        }
        return bits;
    }

    boolean believe(int c, int f, boolean is) {
        need(c, 4);
        needFormula(f);
        boolean was = s.told[c][f];
        s.told[c][f] = is;
        return was != is;
    }

    int counter(int c, int f) {
        need(c, 4);
        needFormula(f);
        BitSet set = worldsOfAll(beliefs(c));
        set.andNot(worldsOf(f));
        return set.nextSetBit(0);
    }

    boolean follows(int c, int f) {
        return counter(c, f) == -1;
    }

    int agree(int a, int b) {
        need(a, 4);
        need(b, 4);
        return worldsOfAll(beliefs(a) | beliefs(b)).nextSetBit(0);
    }

    private int there(int set) {
        int bits = 0;
        for (int f = 0; f < s.formulas.size(); f++) {
            bits |= set & 1 << f;
        }
        if (Integer.bitCount(bits) > 14) {
            throw new IllegalArgumentException();
        }
        return bits;
    }

    private static boolean isBetter(int bits, int best) {
        return best == -1 || Integer.bitCount(bits) < Integer.bitCount(best)
                || Integer.bitCount(bits) == Integer.bitCount(best) && bits < best;
    }

    int withdraw(int set) {
        int bits = there(set);
        int best = -1;
        for (int sub = bits; ; sub = sub - 1 & bits) {
            if (isBetter(sub, best) && !worldsOfAll(bits & ~sub).isEmpty()) {
                best = sub;
            }
            if (sub == 0) {
                return best;
            }
        }
    }

    int core(int set) {
        int bits = there(set);
        int best = -1;
        for (int sub = bits; sub != 0; sub = sub - 1 & bits) {
            if (isBetter(sub, best) && worldsOfAll(sub).isEmpty()) {
                best = sub;
            }
        }
        return best == -1 ? 0 : best;
    }

    int idle(int c) {
        need(c, 4);
        int result = 0;
        for (int f = 0; f < s.formulas.size(); f++) {
            if (s.told[c][f]) {
                BitSet set = worldsOfAll(beliefs(c) & ~(1 << f));
                set.andNot(worldsOf(f));
                result |= set.isEmpty() ? 1 << f : 0;
            }
        }
        return result;
    }

    int alike(int f) {
        needFormula(f);
        int result = 0;
        for (int g = 0; g < s.formulas.size(); g++) {
            result |= worldsOf(f).equals(worldsOf(g)) ? 1 << g : 0;
        }
        return result;
    }

    int more(int c, int f) {
        need(c, 4);
        needFormula(f);
        int best = -1;
        int n = s.formulas.size();
        for (int i = -1; i < n; i++) {
            for (int j = i; j < n; j++) {
                for (int k = j; k < n; k++) {
                    int bits = (i < 0 ? 0 : 1 << i) | (j < 0 ? 0 : 1 << j) | (k < 0 ? 0 : 1 << k);
                    boolean isOpen = true;
                    for (int g = 0; g < n; g++) {
                        isOpen &= (bits >> g & 1) == 0 || !same(f, g);
                    }
                    if (isOpen && isBetter(bits, best)) {
                        BitSet set = worldsOfAll(beliefs(c) | bits);
                        BitSet outside = (BitSet) set.clone();
                        outside.andNot(worldsOf(f));
                        if (!set.isEmpty() && outside.isEmpty()) {
                            best = bits;
                        }
                    }
                }
            }
        }
        return best;
    }

    // ---- houses and lines

    int rules(int h, int bits) {
        need(h, 3);
        if (bits < 0 || bits > 65535) {
            throw new IllegalArgumentException();
        }
        int old = s.rules[h];
        s.rules[h] = bits;
        return old;
    }

    int price(int h, int rule, int n) {
        need(h, 3);
        need(rule, 17);
        if (n < 0 || n > (rule == 16 ? 9 : 99)) {
            throw new IllegalArgumentException();
        }
        int old = s.prices[h][rule];
        s.prices[h][rule] = n;
        return old;
    }

    int line(int h, int f, int rule, int a, int b, int c) {
        need(h, 3);
        needFormula(f);
        need(rule, 16);
        int[] told = {a, b, c};
        for (int i = 0; i < 3; i++) {
            if (rule == 0 && i == 0) {
                need(a, 4);
            } else if (told[i] != -1) {
                need(told[i], s.lines.size());
            }
        }
        if (rule == 0 && (b != -1 || c != -1)) {
            throw new IllegalArgumentException();
        }
        if (a == -1 && b != -1 || a == -1 && c != -1 || b == -1 && c != -1) {
            throw new IllegalArgumentException();
        }
        if (s.lines.size() == 40) {
            throw new UnsupportedOperationException();
        }
        s.lines.add(new Line(h, f, rule, told));
        return s.lines.size() - 1;
    }

    private int cost(int line) {
        Line l = s.lines.get(line);
        return s.prices[l.house][l.rule] + s.prices[l.house][16] * signs(l.formula);
    }

    int look(int line, int what) {
        need(line, s.lines.size());
        Line l = s.lines.get(line);
        switch (what) {
            case 0: return l.house;
            case 1: return l.formula;
            case 2: return l.rule;
            case 3: case 4: case 5: return l.told[what - 3];
            case 6: return cost(line);
            default: throw new NoSuchElementException();
        }
    }

    private boolean believes(int c, String text) {
        for (int f = 0; f < s.formulas.size(); f++) {
            if (s.told[c][f] && text(f).equals(text)) {
                return true;
            }
        }
        return false;
    }

    private static final int[] ASKED = {0, 0, 2, 1, 1, 1, 1, 2, 1, 3, 2, 1, 0, 1, 2, 1};

    /** Whether a rule leads from premises to a formula, as far as what they say goes. */
    private boolean leads(int rule, List<Tree> from, Tree to) {
        int asked = rule == 12 ? s.things : ASKED[rule];
        if (from.size() != asked) {
            return false;
        }
        String goal = to.text();
        String a = asked > 0 ? from.get(0).text() : "";
        String b = asked > 1 ? from.get(1).text() : "";
        switch (rule) {
            case 2: return isJoin(to, "&", a, b);
            case 3: return from.get(0).sign.equals("&") && from.get(0).part(0).text().equals(goal);
            case 4: return from.get(0).sign.equals("&") && from.get(0).part(1).text().equals(goal);
            case 5: return to.sign.equals("|") && to.part(0).text().equals(a);
            case 6: return to.sign.equals("|") && to.part(1).text().equals(a);
            case 7: return isJoin(from.get(1), ">", a, goal);
            case 8: return a.startsWith("-(-(") && a.equals("-(-(" + goal + "))");
            case 9: {
                Tree or = from.get(0);
                return or.sign.equals("|")
                        && isJoin(from.get(1), ">", or.part(0).text(), goal)
                        && isJoin(from.get(2), ">", or.part(1).text(), goal);
            }
            case 10: return isJoin(to, ">", a, b);
            case 11: {
                boolean is = false;
                for (int i = 0; i < s.things && from.get(0).sign.equals("all"); i++) {
                    is |= from.get(0).part(0).with(i).text().equals(goal);
                }
                return is;
            }
            case 12: {
                boolean is = to.sign.equals("all");
                for (int i = 0; i < s.things && is; i++) {
                    is = to.part(0).with(i).text().equals(from.get(i).text());
                }
                return is;
            }
            case 13: {
                boolean is = false;
                for (int i = 0; i < s.things && to.sign.equals("some"); i++) {
                    is |= to.part(0).with(i).text().equals(a);
                }
                return is;
            }
            case 14: return b.startsWith("-(") && b.equals("-(" + a + ")");
            case 15: return goal.equals(a);
            default: return true;
        }
    }

    private static boolean isJoin(Tree t, String sign, String left, String right) {
        return t.sign.equals(sign) && t.part(0).text().equals(left) && t.part(1).text().equals(right);
    }

    boolean honest(Line l) {
        if ((s.rules[l.house] >> l.rule & 1) == 0) {
            return false;
        }
        List<Tree> from = new ArrayList<>();
        for (int p : l.premises()) {
            from.add(s.formulas.get(s.lines.get(p).formula));
        }
        if (!leads(l.rule, from, s.formulas.get(l.formula))) {
            return false;
        }
        if (l.rule == 0) {
            return believes(l.told[0], text(l.formula));
        }
        if (l.rule == 10) {
            return s.lines.get(l.told[0]).rule == 1;
        }
        return l.rule != 15 || s.lines.get(l.told[0]).house != l.house;
    }

    private boolean sound(int line) {
        for (int i = 0; i <= line; i++) {
            if ((needsOf(line) >> i & 1) != 0 && !honest(s.lines.get(i))) {
                return false;
            }
        }
        return true;
    }

    private final Map<Integer, Long> restsSeen = new HashMap<>();
    private final Map<Integer, Long> needsSeen = new HashMap<>();

    private long restsOf(int line) {
        Line l = s.lines.get(line);
        if (l.rule <= 1) {
            return 1L << line;
        }
        if (!restsSeen.containsKey(line)) {
            long rests = 0;
            for (int p : l.premises()) {
                rests |= restsOf(p);
            }
            if (l.rule == 10 && l.told[0] != -1 && s.lines.get(l.told[0]).rule == 1) {
                rests &= ~(1L << l.told[0]);
            }
            restsSeen.put(line, rests);
        }
        return restsSeen.get(line);
    }

    private long needsOf(int line) {
        if (!needsSeen.containsKey(line)) {
            long needs = 1L << line;
            for (int p : s.lines.get(line).premises()) {
                needs |= needsOf(p);
            }
            needsSeen.put(line, needs);
        }
        return needsSeen.get(line);
    }

    long rests(int line) {
        need(line, s.lines.size());
        return restsOf(line);
    }

    long needs(int line) {
        need(line, s.lines.size());
        return needsOf(line);
    }

    int spent(int line) {
        need(line, s.lines.size());
        int sum = 0;
        for (int i = 0; i < s.lines.size(); i++) {
            sum += (needs(line) >> i & 1) != 0 ? cost(i) : 0;
        }
        return sum;
    }

    private boolean rests(int line, int rule, boolean isUnbelieved) {
        for (int i = 0; i < s.lines.size(); i++) {
            Line l = s.lines.get(i);
            if ((restsOf(line) >> i & 1) != 0 && l.rule == rule
                    && !(isUnbelieved && believes(l.told[0], text(l.formula)))) {
                return true;
            }
        }
        return false;
    }

    private boolean open(int line) {
        return rests(line, 1, false);
    }

    private boolean stale(int line) {
        return rests(line, 0, true);
    }

    private boolean saved(int line) {
        if (!stale(line)) {
            return false;
        }
        for (int i = 0; i < s.lines.size(); i++) {
            if (i != line && same(s.lines.get(i).formula, s.lines.get(line).formula)
                    && sound(i) && !open(i) && !stale(i)) {
                return true;
            }
        }
        return false;
    }

    boolean is(int line, int what) {
        need(line, s.lines.size());
        switch (what) {
            case 0: return honest(s.lines.get(line));
            case 1: return sound(line);
            case 2: return open(line);
            case 3: return stale(line);
            case 4: return saved(line);
            default: throw new NoSuchElementException();
        }
    }

    int wrong() {
        for (int i = 0; i < s.lines.size(); i++) {
            if (!honest(s.lines.get(i))) {
                return i;
            }
        }
        return -1;
    }

    long falls(int c, int f) {
        need(c, 4);
        needFormula(f);
        long before = staleOnes();
        boolean was = s.told[c][f];
        s.told[c][f] = false;
        long after = staleOnes();
        s.told[c][f] = was;
        return after & ~before;
    }

    private long staleOnes() {
        long bits = 0;
        for (int i = 0; i < s.lines.size(); i++) {
            bits |= stale(i) ? 1L << i : 0;
        }
        return bits;
    }

    int chain(int line) {
        need(line, s.lines.size());
        Line l = s.lines.get(line);
        return l.rule != 15 ? 0 : l.told[0] == -1 ? 1 : 1 + chain(l.told[0]);
    }

    // ---- proofs

    private record Step(int rule, int goal, List<Integer> from) { }

    private void look(Tree t, Map<String, Tree> seen) {
        if (seen.size() < 40) {
            seen.putIfAbsent(t.text(), t);
        }
        if (t.isBinder()) {
            for (int i = 0; i < s.things; i++) {
                look(t.part(0).with(i), seen);
            }
        } else {
            for (Tree part : t.parts) {
                look(part, seen);
            }
        }
    }

    private List<Tree> looked;
    private List<Integer> assumable;
    private List<Step> steps;

    private void prepare(int c, int f) {
        Map<String, Tree> seen = new LinkedHashMap<>();
        look(s.formulas.get(f), seen);
        for (int g = 0; g < s.formulas.size(); g++) {
            if (s.told[c][g]) {
                look(s.formulas.get(g), seen);
            }
        }
        looked = new ArrayList<>(seen.values());
        List<String> names = new ArrayList<>(seen.keySet());
        assumable = new ArrayList<>();
        for (Tree t : looked) {
            int a = t.sign.equals(">") ? names.indexOf(t.part(0).text()) : -1;
            if (a >= 0 && !assumable.contains(a) && assumable.size() < 3) {
                assumable.add(a);
            }
        }
        steps = new ArrayList<>();
        int n = looked.size();
        for (int goal = 0; goal < n; goal++) {
            for (int a = 0; a < n; a++) {
                tryRules(goal, List.of(a));
                for (int b = 0; b < n; b++) {
                    tryRules(goal, List.of(a, b));
                    boolean mayBeThird = looked.get(a).sign.equals("|") || looked.get(goal).sign.equals("all");
                    for (int d = 0; d < n && mayBeThird; d++) {
                        tryRules(goal, List.of(a, b, d));
                    }
                }
            }
        }
    }

    private void tryRules(int goal, List<Integer> from) {
        List<Tree> trees = new ArrayList<>();
        for (int p : from) {
            trees.add(looked.get(p));
        }
        for (int rule = 2; rule < 15; rule++) {
            if (leads(rule, trees, looked.get(goal))) {
                steps.add(new Step(rule, goal, from));
            }
        }
    }

    private static final int NO = 1000000;

    private int lineCost(int h, int rule, int at) {
        return (s.rules[h] >> rule & 1) == 0 ? NO : s.prices[h][rule] + s.prices[h][16] * looked.get(at).signs();
    }

    private int stepCost(int h, Step step, int set, int[][] cost) {
        int sum = lineCost(h, step.rule, step.goal);
        if (step.rule == 10) {
            int slot = assumable.indexOf(step.from.get(0));
            if (slot < 0) {
                return NO;
            }
            sum += lineCost(h, 1, step.from.get(0)) + cost[set | 1 << slot][step.from.get(1)];
        } else {
            for (int p : step.from) {
                sum += cost[set][p];
            }
        }
        return sum > 99999 ? NO : sum;
    }

    private int[][] settle(int h, int c) {
        int[][] cost = new int[8][looked.size()];
        for (int set = 0; set < 8; set++) {
            for (int i = 0; i < looked.size(); i++) {
                cost[set][i] = believes(c, looked.get(i).text()) ? lineCost(h, 0, i) : NO;
                int slot = assumable.indexOf(i);
                if (slot >= 0 && (set >> slot & 1) != 0) {
                    cost[set][i] = Math.min(cost[set][i], lineCost(h, 1, i));
                }
            }
        }
        boolean isChanged = true;
        while (isChanged) {
            isChanged = false;
            for (Step step : steps) {
                for (int set = 0; set < 8; set++) {
                    int now = stepCost(h, step, set, cost);
                    if (now < cost[set][step.goal]) {
                        cost[set][step.goal] = now;
                        isChanged = true;
                    }
                }
            }
        }
        return cost;
    }

    int cheapest(int h, int c, int f) {
        need(h, 3);
        need(c, 4);
        needFormula(f);
        prepare(c, f);
        int cost = settle(h, c)[0][0];
        return cost == NO ? -1 : cost;
    }

    int lastly(int h, int c, int f) {
        int due = cheapest(h, c, f);
        if (due == -1) {
            return -1;
        }
        if (believes(c, text(f)) && lineCost(h, 0, 0) == due) {
            return 0;
        }
        int[][] cost = settle(h, c);
        int least = 99;
        for (Step step : steps) {
            if (step.goal == 0 && stepCost(h, step, 0, cost) == due) {
                least = Math.min(least, step.rule);
            }
        }
        return least;
    }

    int where(int c, int f) {
        int best = -1;
        for (int h = 0; h < 3; h++) {
            int cost = cheapest(h, c, f);
            if (cost != -1 && (best == -1 || cost < cheapest(best, c, f))) {
                best = h;
            }
        }
        return best;
    }

    int resold(int h, int c, int f) {
        need(h, 3);
        need(c, 4);
        needFormula(f);
        int least = NO;
        for (int other = 0; other < 3; other++) {
            int cost = other == h ? -1 : cheapest(other, c, f);
            least = cost == -1 ? least : Math.min(least, cost);
        }
        if (least == NO || (s.rules[h] >> 15 & 1) == 0) {
            return -1;
        }
        return least + s.prices[h][15] + s.prices[h][16] * signs(f);
    }

    int forward(int h, int c, int f) {
        int own = cheapest(h, c, f);
        int other = resold(h, c, f);
        return own == -1 ? -1 : other == -1 ? 0 : own - Math.min(own, other);
    }

    // ---- receipts

    int sell(int line, int buyer, int coins, int day) {
        need(line, s.lines.size());
        if (buyer < 0 || buyer > 6 || coins < 0 || coins > 9999 || day < 0 || day > 9999
                || buyer - 4 == s.lines.get(line).house) {
            throw new IllegalArgumentException();
        }
        if (s.receipts.size() == 30) {
            throw new UnsupportedOperationException();
        }
        s.receipts.add(new Receipt(line, buyer, coins, day));
        return s.receipts.size() - 1;
    }

    boolean undo(int r) {
        need(r, s.receipts.size());
        boolean was = s.voids.get(r);
        s.voids.set(r);
        return !was;
    }

    private boolean isPaidBack(int r, int law) {
        if (s.voids.get(r)) {
            return false;
        }
        Receipt x = s.receipts.get(r);
        boolean is = (law & 1) != 0 && !is(x.line, 0);
        is |= (law & 2) != 0 && !is(x.line, 1);
        is |= (law & 4) != 0 && is(x.line, 3) && !is(x.line, 4);
        is |= (law & 8) != 0 && is(x.line, 2);
        for (int o = 0; o < s.receipts.size() && (law & 16) != 0; o++) {
            Receipt y = s.receipts.get(o);
            boolean isBefore = y.day < x.day || y.day == x.day && o < r;
            is |= isBefore && !s.voids.get(o) && y.buyer == x.buyer
                    && same(s.lines.get(x.line).formula, s.lines.get(y.line).formula);
        }
        return is;
    }

    private void needLaw(int law) {
        if (law < 0 || law > 31) {
            throw new IllegalArgumentException();
        }
    }

    int refunds(int law) {
        needLaw(law);
        int bits = 0;
        for (int r = 0; r < s.receipts.size(); r++) {
            bits |= isPaidBack(r, law) ? 1 << r : 0;
        }
        return bits;
    }

    int owes(int h, int buyer, int law) {
        need(h, 3);
        needLaw(law);
        if (buyer < -1 || buyer > 6) {
            throw new IllegalArgumentException();
        }
        int sum = 0;
        for (int r = 0; r < s.receipts.size(); r++) {
            Receipt x = s.receipts.get(r);
            if (isPaidBack(r, law) && s.lines.get(x.line).house == h && (buyer == -1 || buyer == x.buyer)) {
                sum += x.coins;
            }
        }
        return sum;
    }

    int gains(int h, int law) {
        need(h, 3);
        needLaw(law);
        int sum = -owes(h, -1, law);
        for (int other = 0; other < 3; other++) {
            sum += owes(other, 4 + h, law);
        }
        for (int r = 0; r < s.receipts.size(); r++) {
            Receipt x = s.receipts.get(r);
            if (!s.voids.get(r)) {
                sum += s.lines.get(x.line).house == h ? x.coins : 0;
                sum -= x.buyer == 4 + h ? x.coins : 0;
            }
        }
        return sum;
    }

    int dearer() {
        int bits = 0;
        for (int r = 0; r < s.receipts.size(); r++) {
            Receipt x = s.receipts.get(r);
            bits |= s.lines.get(x.line).rule == 15 && x.coins > spent(x.line) ? 1 << r : 0;
        }
        return bits;
    }

    void image() {
        image = s.copy();
    }

    boolean back() {
        if (image == null) {
            return false;
        }
        s = image.copy();
        restsSeen.clear();
        needsSeen.clear();
        return true;
    }

    int count(int what) {
        switch (what) {
            case 0: return s.things;
            case 1: return s.formulas.size();
            case 2: return s.lines.size();
            case 3: return s.receipts.size();
            case 4: return s.voids.cardinality();
            case 5:
                int n = 0;
                for (Line l : s.lines) {
                    n += honest(l) ? 0 : 1;
                }
                return n;
            case 6:
                int sum = 0;
                for (int r = 0; r < s.receipts.size(); r++) {
                    sum += s.voids.get(r) ? 0 : s.receipts.get(r).coins;
                }
                return sum;
            default: return -1;
        }
    }
}
