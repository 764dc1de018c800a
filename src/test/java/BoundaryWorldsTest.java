/** Edges of things, formulas and worlds, a test for each sentence: promises 1, 6 to 10, 23, 24 and 30 to 36. */
public final class BoundaryWorldsTest {
    private static final Due due = new Due();
    private static final int NONE = ProofShop.NONE;
    private static final int LEAST = Integer.MIN_VALUE;
    private static final int MOST = Integer.MAX_VALUE;
    /** Holds in the last world alone. */
    private static final String LAST = "p&q&r&s&all(fx&gx)";
    /** Holds in the first world alone. */
    private static final String FIRST = "-(p|q|r|s|some(fx|gx))";

    public static void main(String[] args) {
        newObject();
        thingsNone();
        thingsTold();
        signs();
        same();
        bitsOfWorlds();
        holds();
        holdsNoWorld();
        ifHolds();
        allAndSome();
        worlds();
        follows();
        counter();
        truths();
        truthsNoWorld();
        agree();
        setsOfNone();
        withdraw();
        withdrawTooMany();
        idle();
        alike();
        core();
        coreTooMany();
        more();
        moreNotItself();
        moreNone();
        due.close("BoundaryWorldsTest");
    }

    private static int worldsOf(int things) {
        return 16 << 2 * things;
    }

    private static ProofShop told(int things, String... texts) {
        ProofShop shop = Due.shopOf(things, texts);
        for (int formula = 0; formula < texts.length; formula++) {
            shop.believe(0, formula, true);
        }
        return shop;
    }

    private static void newObject() {
        due.promise(1, "Two THINGS; nothing told.");
        ProofShop shop = new ProofShop();
        due.is("D", 2, shop.count(0));
        for (int what = 1; what <= 6; what++) {
            due.is("count " + what, 0, shop.count(what));
        }
        for (int customer = 0; customer < 4; customer++) {
            due.is("beliefs", 0, shop.beliefs(customer));
            due.is("idle", 0, shop.idle(customer));
        }
        due.is("the last world of two things", 0, shop.truths(255));
        due.refuses("truths", Due.ARGUMENT, n -> shop.truths(n), 256);
        due.refuses("signs", Due.INDEX, n -> shop.signs(n), 0);
        due.refuses("rests", Due.INDEX, n -> shop.rests(n), 0);
        due.refuses("undo", Due.INDEX, n -> Due.bit(shop.undo(n)), 0);
        due.is("wrong", NONE, shop.wrong());
        due.is("fault", NONE, shop.fault());
        due.is("no image", false, shop.back());
    }

    private static long setThings(ProofShop shop, int n) {
        shop.things(n);
        return 0;
    }

    private static void thingsNone() {
        due.promise(6, "D. IllegalArgumentException: it is none;");
        ProofShop shop = new ProofShop();
        due.refuses("things", Due.ARGUMENT, n -> setThings(shop, n), 0, 4, -1, LEAST, MOST);
        due.is("D stays", 2, shop.count(0));
        for (int n : new int[] {1, 3, 2, 3}) {
            shop.things(n);
            due.is("D", n, shop.count(0));
            due.refuses("things", Due.ARGUMENT, m -> setThings(shop, m), 0, 4);
            due.is("D still", n, shop.count(0));
        }
        Due.tell(shop, "p");
        due.refuses("things with formulas", Due.ARGUMENT, n -> setThings(shop, n), 0, 4, -1, LEAST, MOST);
    }

    private static void thingsTold() {
        due.promise(6, "IllegalStateException: there are FORMULAS.");
        ProofShop shop = new ProofShop();
        shop.image();
        Due.tell(shop, "p");
        due.refuses("things", Due.STATE, n -> setThings(shop, n), 1, 2, 3);
        due.is("D stays", 2, shop.count(0));
        shop.back();
        shop.things(3);
        due.is("without formulas again", 3, shop.count(0));
        Due.tape(shop, "p&");
        due.fails("a wrong text", Due.ARGUMENT, () -> shop.formula());
        shop.things(1);
        due.is("a wrong text is no formula", 1, shop.count(0));
    }

    private static void signs() {
        due.promise(7, "SIGNS.");
        ProofShop shop = Due.fullOf(2, "p", "-p" + "&p".repeat(19));
        due.is("the fewest", 1, shop.signs(0));
        due.is("the most", 40, shop.signs(29));
        due.refuses("signs", Due.INDEX, n -> shop.signs(n), -1, 30, LEAST, MOST);
    }

    private static void same() {
        due.promise(8, "Whether two are SAME.");
        ProofShop shop = Due.fullOf(2, "p", "(p)", "q");
        due.is("with itself", true, shop.same(29, 29));
        due.is("the first and the last", false, shop.same(0, 29));
        due.is("SAME", true, shop.same(1, 0));
        due.refuses("same n 0", Due.INDEX, n -> Due.bit(shop.same(n, 0)), -1, 30, LEAST, MOST);
        due.refuses("same 0 n", Due.INDEX, n -> Due.bit(shop.same(0, n)), -1, 30, LEAST, MOST);
        due.refuses("same n n", Due.INDEX, n -> Due.bit(shop.same(n, n)), -1, 30);
    }

    private static void bitsOfWorlds() {
        due.term("A WORLD: a number of 4 and 2 times D bits: bits 0 to 3: whether p, q, r, s hold; then f of THING 0, 1, ..; then g of THING 0, 1, ...");
        for (int things = 1; things <= 3; things++) {
            String[] atoms = new String[4 + 2 * things];
            System.arraycopy(new String[] {"p", "q", "r", "s"}, 0, atoms, 0, 4);
            for (int thing = 0; thing < things; thing++) {
                atoms[4 + thing] = "f" + thing;
                atoms[4 + things + thing] = "g" + thing;
            }
            ProofShop shop = Due.shopOf(things, atoms);
            for (int bit = 0; bit < atoms.length; bit++) {
                due.is(atoms[bit] + " in its bit alone", true, shop.holds(bit, 1 << bit));
                due.is(atoms[bit] + " in all others", false, shop.holds(bit, worldsOf(things) - 1 - (1 << bit)));
                due.is(atoms[bit] + " is one atom of " + (1 << bit), 1, shop.truths(1 << bit));
            }
        }
    }

    private static void holds() {
        due.promise(9, "Whether it holds in a WORLD.");
        for (int things = 1; things <= 3; things++) {
            ProofShop shop = Due.fullOf(things, "p", LAST);
            int last = worldsOf(things) - 1;
            due.is("p in world 0", false, shop.holds(0, 0));
            due.is("in the last world", true, shop.holds(29, last));
            due.is("in the one before", false, shop.holds(29, last - 1));
            due.refuses("formula", Due.INDEX, n -> Due.bit(shop.holds(n, 0)), -1, 30, LEAST, MOST);
            due.refuses("formula, and no world", Due.INDEX, n -> Due.bit(shop.holds(n, -1)), -1, 30, LEAST, MOST);
        }
    }

    private static void holdsNoWorld() {
        due.promise(9, "IllegalArgumentException: it is none.");
        for (int things = 1; things <= 3; things++) {
            ProofShop shop = Due.shopOf(things, "p");
            due.refuses("world", Due.ARGUMENT, n -> Due.bit(shop.holds(0, n)), -1, worldsOf(things), LEAST, MOST);
        }
    }

    private static void ifHolds() {
        due.term("> is if;");
        ProofShop shop = Due.shop("p>q", "p>q>r", "(p>q)>r");
        for (int world = 0; world < 8; world++) {
            boolean p = (world & 1) != 0;
            boolean q = (world & 2) != 0;
            boolean r = (world & 4) != 0;
            due.is("p>q in " + world, !p || q, shop.holds(0, world));
            due.is("p>q>r in " + world, !p || !q || r, shop.holds(1, world));
            due.is("(p>q)>r in " + world, p && !q || r, shop.holds(2, world));
        }
    }

    private static void allAndSome() {
        due.term("all: for all THINGS in place of x; some: for one at least.");
        due.is("of one thing they are one", 3, Due.shopOf(1, "all fx", "some fx").alike(0));
        for (int things = 1; things <= 3; things++) {
            ProofShop shop = Due.shopOf(things, "all fx", "some fx", "all p", "some p");
            int whole = (1 << things) - 1;
            for (int f = 0; f <= whole; f++) {
                due.is("all, f of " + f, f == whole, shop.holds(0, f << 4));
                due.is("some, f of " + f, f != 0, shop.holds(1, f << 4));
                due.is("all without x", false, shop.holds(2, f << 4));
                due.is("some without x", true, shop.holds(3, f << 4 | 1));
            }
        }
    }

    private static void worlds() {
        due.promise(10, "In how many WORLDS it holds.");
        for (int things = 1; things <= 3; things++) {
            ProofShop shop = Due.fullOf(things, "p&-p", "p|-p", "p", LAST);
            due.is("none", 0, shop.worlds(0));
            due.is("all", worldsOf(things), shop.worlds(1));
            due.is("half", worldsOf(things) / 2, shop.worlds(2));
            due.is("one", 1, shop.worlds(29));
            due.refuses("worlds", Due.INDEX, n -> shop.worlds(n), -1, 30, LEAST, MOST);
        }
    }

    private static void follows() {
        due.promise(23, "FOLLOWS.");
        due.term("FOLLOWS: a FORMULA from what a CUSTOMER believes, if it holds in all WORLDS in which all that holds.");
        for (int things = 1; things <= 3; things++) {
            ProofShop shop = Due.fullOf(things, "p", "-p", "p|-p", "p&-p", "-(" + LAST + ")");
            due.is("from nothing what always holds", true, shop.follows(0, 2));
            due.is("from nothing all but the last world", false, shop.follows(0, 29));
            due.is("from nothing what never holds", false, shop.follows(0, 3));
            shop.believe(3, 0, true);
            due.is("itself", true, shop.follows(3, 0));
            due.is("of another customer", false, shop.follows(2, 0));
            shop.believe(3, 1, true);
            due.is("all, where nothing holds", true, shop.follows(3, 3));
            due.refuses("customer", Due.INDEX, n -> Due.bit(shop.follows(n, 0)), -1, 4, LEAST, MOST);
            due.refuses("formula", Due.INDEX, n -> Due.bit(shop.follows(0, n)), -1, 30, LEAST, MOST);
        }
    }

    private static void counter() {
        due.promise(24, "COUNTER; NONE.");
        due.term("A COUNTER: the least WORLD in which all that holds, and it does not; none.");
        for (int things = 1; things <= 3; things++) {
            ProofShop shop = Due.fullOf(things, "p", "-p", "p|-p", "-(p&q&r&s&f0)", "-g0", "-(" + LAST + ")");
            due.is("none", NONE, shop.counter(0, 2));
            due.is("the first world", 0, shop.counter(0, 0));
            due.is("the least of many", 31, shop.counter(0, 3));
            due.is("g0", 16 << things, shop.counter(0, 4));
            due.is("the last world", worldsOf(things) - 1, shop.counter(0, 29));
            shop.believe(1, 0, true);
            due.is("none of itself", NONE, shop.counter(1, 0));
            due.is("the least in which it holds", 1, shop.counter(1, 1));
            shop.believe(1, 1, true);
            due.is("none, where nothing holds", NONE, shop.counter(1, 29));
            due.refuses("customer", Due.INDEX, n -> shop.counter(n, 0), -1, 4, LEAST, MOST);
            due.refuses("formula", Due.INDEX, n -> shop.counter(0, n), -1, 30, LEAST, MOST);
        }
        due.is("the 64th world of two things", 63, Due.shopOf(2, "-(p&q&r&s&f0&f1)").counter(0, 0));
        due.is("the 65th", 64, Due.shopOf(2, "-g0").counter(0, 0));
    }

    private static void truths() {
        due.promise(30, "TRUTHS.");
        due.term("TRUTHS: how many FORMULAS of all hold in a WORLD.");
        due.is("of none", 0, new ProofShop().truths(0));
        for (int things = 1; things <= 3; things++) {
            ProofShop shop = Due.fullOf(things, LAST);
            due.is("all of thirty", 30, shop.truths(worldsOf(things) - 1));
            due.is("none of thirty", 0, shop.truths(0));
        }
        due.is("a SAME one counts, too", 2, Due.shop("p", "q", "(p)").truths(1));
    }

    private static void truthsNoWorld() {
        due.promise(30, "IllegalArgumentException: it is no WORLD.");
        for (int things = 1; things <= 3; things++) {
            ProofShop shop = Due.shopOf(things);
            due.is("the last of none", 0, shop.truths(worldsOf(things) - 1));
            due.refuses("truths", Due.ARGUMENT, n -> shop.truths(n), -1, worldsOf(things), LEAST, MOST);
        }
    }

    private static void agree() {
        due.promise(31, "AGREE; NONE.");
        due.term("AGREE: two CUSTOMERS, if there is a WORLD in which all that both believe holds: the least; none.");
        for (int things = 1; things <= 3; things++) {
            ProofShop shop = Due.shopOf(things, "p&q&r&s", "all(fx&gx)", "-p", "r|s");
            due.is("who believe nothing", 0, shop.agree(0, 3));
            shop.believe(0, 0, true);
            shop.believe(3, 1, true);
            due.is("in the last world alone", worldsOf(things) - 1, shop.agree(0, 3));
            due.is("turned", worldsOf(things) - 1, shop.agree(3, 0));
            shop.believe(1, 2, true);
            due.is("none", NONE, shop.agree(1, 0));
            shop.believe(2, 3, true);
            due.is("the least", 4, shop.agree(1, 2));
            due.is("one with himself", 15, shop.agree(0, 0));
            shop.believe(1, 0, true);
            due.is("one who contradicts himself", NONE, shop.agree(1, 1));
            due.refuses("first", Due.INDEX, n -> shop.agree(n, 0), -1, 4, LEAST, MOST);
            due.refuses("second", Due.INDEX, n -> shop.agree(0, n), -1, 4, LEAST, MOST);
        }
    }

    /** Sixteen formulas, of which the even ones are p and the odd ones are not. */
    private static ProofShop pairs(int formulas) {
        String[] texts = new String[formulas];
        for (int i = 0; i < formulas; i++) {
            texts[i] = i % 2 == 0 ? "p" : "-p";
        }
        return Due.shop(texts);
    }

    private static void setsOfNone() {
        due.term("Sets are bits; of none they count for nothing.");
        ProofShop empty = new ProofShop();
        for (int set : new int[] {0, 1, -1, LEAST, MOST}) {
            due.is("withdraw of " + set, 0, empty.withdraw(set));
            due.is("core of " + set, 0, empty.core(set));
        }
        ProofShop shop = pairs(14);
        for (int set : new int[] {0x3FFF, -1, MOST, LEAST | 0x3FFF}) {
            due.is("withdraw of " + set, 0x1555, shop.withdraw(set));
            due.is("core of " + set, 3, shop.core(set));
        }
        due.is("withdraw of none", 0, shop.withdraw(-1 << 14));
        due.is("core of none", 0, shop.core(-1 << 14));
        ProofShop full = Due.fullOf(2, "p&-p");
        due.is("bits 30 and 31", 1 << 29, full.withdraw(7 << 29));
        due.is("bits 30 and 31", 1 << 29, full.core(7 << 29));
    }

    /** Fourteen of which any thirteen hold together, but not all. */
    private static ProofShop fourteen() {
        String[] texts = new String[14];
        for (int i = 0; i < 13; i++) {
            texts[i] = "-(" + sign(i, 0) + "p&" + sign(i, 1) + "q&" + sign(i, 2) + "r&" + sign(i, 3) + "s)";
        }
        texts[13] = "-(s&r&(q|p))";
        return Due.shopOf(3, texts);
    }

    private static String sign(int world, int bit) {
        return (world >> bit & 1) != 0 ? "" : "-";
    }

    private static void withdraw() {
        due.promise(32, "FEWEST, as bits.");
        due.term("so that there is a WORLD in which the others hold: of several the least as bits.");
        ProofShop shop = pairs(16);
        due.is("of no set", 0, shop.withdraw(0));
        due.is("one that holds", 0, shop.withdraw(1 << 15));
        due.is("of two the least", 1, shop.withdraw(3));
        due.is("fewest, not least", 1 << 3, shop.withdraw(1 | 4 | 8));
        due.is("of two the least, turned", 2, shop.withdraw(6));
        for (int things = 1; things <= 3; things++) {
            due.is("the first world alone", 2, Due.shopOf(things, FIRST, "p", FIRST).withdraw(7));
            due.is("the last world alone", 2, Due.shopOf(things, LAST, "-p", LAST).withdraw(7));
        }
        due.is("of two halves the least", 0x1555, shop.withdraw(0x3FFF));
        due.is("the highest", 1 << 15, shop.withdraw(1 << 15 | 1 << 14 | 1 << 12));
        ProofShop full = Due.fullOf(2, "p", "p&-p");
        due.is("fourteen that never hold", 0x3FFF << 16, full.withdraw(0x3FFF << 16));
        due.is("the others hold", 0x1FFF << 17, full.withdraw(1 | 0x1FFF << 17));
        due.is("one of fourteen", 1, fourteen().withdraw(0x3FFF));
        due.is("none of thirteen", 0, fourteen().withdraw(0x3FFE));
    }

    private static void withdrawTooMany() {
        due.promise(32, "IllegalArgumentException: there are more than 14 in the set.");
        due.term("FEWEST to be withdrawn from a set of FORMULAS (14 at most)");
        ProofShop shop = pairs(16);
        due.refuses("withdraw", Due.ARGUMENT, n -> shop.withdraw(n), 0x7FFF, 0xFFFF, 0xFFFE, -1, MOST, 0x7FFF | LEAST);
        due.is("fourteen", 0x1555 << 2, shop.withdraw(0x3FFF << 2));
    }

    private static void idle() {
        due.promise(33, "IDLE, as bits.");
        due.term("IDLE are FORMULAS that a CUSTOMER is told to believe");
        due.term("(each by its number) and that FOLLOW from the others that he is told to believe (a SAME one, too).");
        ProofShop shop = Due.fullOf(2, "q", "p|-p", "p");
        due.is("nothing told", 0, shop.idle(3));
        shop.believe(3, 0, true);
        due.is("one alone", 0, shop.idle(3));
        due.is("formula 0", 1, told(2, "p|-p", "p").idle(0));
        due.is("formulas 0 and 1", 3, told(2, "p", "(p)").idle(0));
        shop.believe(3, 1, true);
        due.is("what always holds", 2, shop.idle(3));
        shop.believe(3, 29, true);
        due.is("what is SAME, but not told", 2, shop.idle(3));
        shop.believe(3, 28, true);
        due.is("what is SAME, each by its number", 2 | 3 << 28, shop.idle(3));
        due.is("of another", 0, shop.idle(0));
        ProofShop clash = told(2, "p", "-p", "q");
        due.is("where nothing holds", 4, clash.idle(0));
        due.is("one that never holds", 0, told(2, "p&-p").idle(0));
        due.refuses("customer", Due.INDEX, n -> shop.idle(n), -1, 4, LEAST, MOST);
    }

    private static void alike() {
        due.promise(34, "ALIKE, as bits (it, too).");
        due.term("ALIKE: FORMULAS that hold in just the same WORLDS.");
        ProofShop shop = Due.fullOf(3, "p", "--p", "(p)", "p&(q|-q)", "p&(q|-q|" + LAST + ")", "p&-(" + LAST + ")");
        due.is("of p", 31, shop.alike(0));
        due.is("it, too", 31, shop.alike(4));
        due.is("all but in the last world", (1 << 30) - 32, shop.alike(29));
        due.is("alone", 2, Due.shop("p", "-p").alike(1));
        due.is("what never holds, and no formula behind it", 1, Due.shop("p&-p").alike(0));
        for (int things = 1; things <= 3; things++) {
            due.is("all but in the first world", 1, Due.shopOf(things, "-p", "-p&-(" + FIRST + ")").alike(0));
            due.is("all but in the last world", 1, Due.shopOf(things, "p", "p&-(" + LAST + ")").alike(0));
        }
        due.is("they differ in worlds 0 to 63 alone", 1, Due.shop("p", "p&(g0|g1)").alike(0));
        due.refuses("formula", Due.INDEX, n -> shop.alike(n), -1, 30, LEAST, MOST);
    }

    private static void core() {
        due.promise(35, "CORE, as bits; 0 without.");
        due.term("the fewest of them that hold together in no WORLD; of several the least as bits; none.");
        ProofShop shop = pairs(16);
        due.is("of no set", 0, shop.core(0));
        due.is("without", 0, shop.core(0x5555));
        due.is("of several the least", 3, shop.core(0x3FFF));
        due.is("the highest", 3 << 14, shop.core(3 << 14));
        due.is("fewest, not least", 1 << 3, Due.shop("p", "-p", "q", "r&-r").core(15));
        for (int things = 1; things <= 3; things++) {
            due.is("they hold in the first world alone", 0, Due.shopOf(things, FIRST, "-p").core(3));
            due.is("they hold in the last world alone", 0, Due.shopOf(things, LAST, "p").core(3));
            due.is("in none", 3, Due.shopOf(things, FIRST, LAST).core(3));
        }
        ProofShop full = Due.fullOf(2, "p", "p&-p");
        due.is("one that never holds", 1 << 29, full.core(1 | 1 << 29));
        due.is("of several that never hold", 1 << 16, full.core(0x3FFF << 16));
        due.is("all fourteen", 0x3FFF, fourteen().core(0x3FFF));
        for (int i = 0; i < 14; i++) {
            due.is("thirteen without " + i, 0, fourteen().core(0x3FFF & ~(1 << i)));
        }
    }

    private static void coreTooMany() {
        due.promise(35, "IllegalArgumentException: there are more than 14 in the set.");
        due.term("CORE of a set of FORMULAS (14 at most)");
        ProofShop shop = pairs(16);
        due.refuses("core", Due.ARGUMENT, n -> shop.core(n), 0x7FFF, 0xFFFF, 0xFFFE, -1, MOST, 0x7FFF | LEAST);
        due.is("fourteen", 3 << 2, shop.core(0x3FFF << 2));
    }

    private static void more() {
        due.promise(36, "MORE, as bits;");
        due.term("MORE: the fewest FORMULAS (0 to 3) which a CUSTOMER would have to believe, too, so that a FORMULA FOLLOWS");
        ProofShop four = Due.shop("p&q&r&s", "p", "q", "r", "s");
        due.is("four are too many", NONE, four.more(0, 0));
        four.believe(0, 1, true);
        due.is("three", 0b11100, four.more(0, 0));
        four.believe(0, 4, true);
        due.is("two", 0b1100, four.more(0, 0));
        four.believe(0, 2, true);
        due.is("one", 0b1000, four.more(0, 0));
        four.believe(0, 3, true);
        due.is("none is missing", 0, four.more(0, 0));
        ProofShop full = Due.fullOf(3, "p&q&r&all fx", "p", "q", "r", "-s");
        for (int i = 27; i < 30; i++) {
            due.is("formula " + i + " is as the others", true, full.same(4, i));
        }
        due.is("of thirty no three", NONE, full.more(0, 0));
        ProofShop high = new ProofShop();
        for (int i = 0; i < 27; i++) {
            Due.tell(high, i == 0 ? "p&q&r" : "s");
        }
        Due.tell(high, "p");
        Due.tell(high, "q");
        Due.tell(high, "r");
        due.is("the last three of thirty", 7 << 27, high.more(0, 0));
        due.refuses("customer", Due.INDEX, n -> high.more(n, 0), -1, 4, LEAST, MOST);
        due.refuses("formula", Due.INDEX, n -> high.more(0, n), -1, 30, LEAST, MOST);
    }

    private static void moreNotItself() {
        due.term("of several the least as bits (that FORMULA, and what is SAME, not among them); none.");
        ProofShop shop = Due.shop("p", "(p)", "--p", "p&p");
        due.is("neither itself nor the SAME", 4, shop.more(0, 0));
        due.is("nor of the SAME", 4, shop.more(0, 1));
        due.is("of another it may", 1, shop.more(0, 2));
        due.is("only SAME ones", NONE, Due.shop("p", "(p)").more(0, 0));
        // As two: p with p>s (3 and 4), q with q>s (1 and 5): the first has the lesser highest bit.
        ProofShop two = Due.shop("s", "q", "r", "p", "p>s", "q>s");
        due.is("of several twos the least as bits", 0b11000, two.more(0, 0));
        ProofShop three = Due.shop("p&q&r", "r", "s", "s>q", "p", "q", "r");
        due.is("of several threes the least as bits", 0b110010, three.more(0, 0));
    }

    private static void moreNone() {
        due.promise(36, "NONE.");
        due.term("and all he believes then holds in some WORLD:");
        due.is("nothing that helps", NONE, Due.shop("p", "q").more(0, 0));
        ProofShop shop = Due.shop("p", "q", "q&-q", "p&-q");
        shop.believe(0, 1, true);
        due.is("what never holds, or contradicts, helps not", NONE, shop.more(0, 0));
        due.is("but him who believes nothing", 8, shop.more(1, 0));
        shop.believe(0, 2, true);
        due.is("what follows from a contradiction", NONE, shop.more(0, 1));
        due.is("what never holds", NONE, shop.more(1, 2));
        ProofShop early = Due.shopOf(3, "p", LAST, "-(" + LAST + ")");
        due.is("some world is the last alone", 2, early.more(0, 0));
        early.believe(0, 2, true);
        due.is("and that is none then", NONE, early.more(0, 0));
        for (int things = 1; things <= 3; things++) {
            due.is("some world is the first alone", 2, Due.shopOf(things, "-p", FIRST).more(0, 0));
            due.is("it fails in the first world alone", NONE, Due.shopOf(things, "p", "p|" + FIRST).more(0, 0));
            due.is("it fails in the last world alone", NONE, Due.shopOf(things, "-p", "-p|" + LAST).more(0, 0));
        }
    }
}
