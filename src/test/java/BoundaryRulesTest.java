import java.util.Arrays;

/** Edges of each rule of reasoning, a test for each sentence: what an honest line must be. */
public final class BoundaryRulesTest {
    private static final Due due = new Due();
    private static final int NONE = ProofShop.NONE;
    private static final int ASSUMED = 1;
    /** Of p alone, so that each rule has a line which says what it asks. */
    private static final String[] EXAMPLES = {"p", "p&p", "p>p", "--p", "p|p", "all p", "some p", "-p"};
    /** For each rule, which of the examples it takes (of BELIEF: customer 0), and which it says. */
    private static final int[][] PREMISES = {
        {0}, {}, {0, 0}, {1}, {1}, {0}, {0}, {0, 2}, {3}, {4, 2, 2}, {0, 0}, {5}, {0, 0}, {0}, {0, 7}, {0},
    };
    private static final int[] SAID = {0, 0, 1, 0, 0, 4, 4, 0, 0, 0, 2, 0, 5, 6, 0, 0};

    public static void main(String[] args) {
        belief();
        assumed();
        both();
        left();
        right();
        first();
        last();
        on();
        twice();
        cases();
        given();
        one();
        each();
        there();
        absurd();
        bought();
        asManyAsAsked();
        houseHasRule();
        due.close("BoundaryRulesTest");
    }

    private static int assume(ProofShop shop, int formula) {
        return shop.line(0, formula, ASSUMED, NONE, NONE, NONE);
    }

    private static int premise(int[] premises, int which) {
        return which < premises.length ? premises[which] : NONE;
    }

    /**
     * All formulas but the last are assumed, and the last is said to follow from these: it is honest with premises in
     * just the told orders. All rows of none to three premises are tried.
     */
    private static void asks(int things, int rule, String texts, int[]... orders) {
        String[] formulas = texts.split(", ");
        int last = formulas.length - 1;
        for (int count = 0; count <= 3; count++) {
            for (int row = 0; row < Math.pow(last, count); row++) {
                int[] premises = new int[count];
                for (int i = 0, left = row; i < count; i++, left /= last) {
                    premises[i] = left % last;
                }
                String what = "rule " + rule + " from " + Arrays.toString(premises) + " of " + texts;
                due.is(what, isAmong(premises, orders), isHonest(things, rule, formulas, premises));
            }
        }
    }

    private static boolean isAmong(int[] premises, int[][] orders) {
        for (int[] order : orders) {
            if (Arrays.equals(order, premises)) {
                return true;
            }
        }
        return false;
    }

    private static boolean isHonest(int things, int rule, String[] formulas, int[] premises) {
        ProofShop shop = Due.shopOf(things, formulas);
        int last = formulas.length - 1;
        for (int i = 0; i < last; i++) {
            assume(shop, i);
        }
        return shop.is(shop.line(0, last, rule, premise(premises, 0), premise(premises, 1), premise(premises, 2)), 0);
    }

    private static int[] of(int... premises) {
        return premises;
    }

    private static void belief() {
        due.term("0 BELIEF (no premises): what a told CUSTOMER believes (looked at as it is now).");
        ProofShop shop = Due.shop("p", "(p)", "--p");
        for (int customer = 0; customer < 4; customer++) {
            int line = shop.line(0, 0, 0, customer, NONE, NONE);
            due.is("nothing is told", false, shop.is(line, 0));
            shop.believe((customer + 1) % 4, 0, true);
            due.is("another is told", false, shop.is(line, 0));
            shop.believe((customer + 1) % 4, 0, false);
            shop.believe(customer, 2, true);
            due.is("it follows, but is not told", false, shop.is(line, 0));
            shop.believe(customer, 1, true);
            due.is("now", true, shop.is(line, 0));
            shop.believe(customer, 1, false);
            due.is("not any more", false, shop.is(line, 0));
        }
    }

    private static void assumed() {
        due.term("1 ASSUMED: any (no premises).");
        for (String text : new String[] {"p", "p&-p", "all(fx>gx)", "-(p|-p)"}) {
            asks(2, ASSUMED, "q, " + text, of());
        }
    }

    private static void both() {
        due.term("2 BOTH: A, B: A & B.");
        asks(2, 2, "p, q, p&q, p&q", of(0, 1));
        asks(2, 2, "p, q, p|q");
        asks(2, 2, "p, q, p>q");
        asks(2, 2, "p, p&p", of(0, 0));
        asks(2, 2, "p, q, r, p&q, q&r, p&q&r", of(3, 2));
    }

    private static void left() {
        due.term("3 LEFT: A & B: A.");
        asks(2, 3, "p&q, p|q, p>q, q&p, p, p", of(0));
        asks(2, 3, "p&q&r, p&(q&r), p&q", of(0));
        asks(2, 3, "all(p&q), -(p&q), p");
    }

    private static void right() {
        due.term("4 RIGHT: A & B: B.");
        asks(2, 4, "p&q, p|q, p>q, q&p, p, p", of(3));
        asks(2, 4, "p&q&r, p&(q&r), q&r", of(1));
    }

    private static void first() {
        due.term("5 FIRST: A: A | B.");
        asks(2, 5, "p, q, p|q, p&q, p|q", of(0));
        asks(2, 5, "p, p&q");
        asks(2, 5, "p, p>q");
        asks(2, 5, "p, p|q, r, p|q|r", of(1));
    }

    private static void last() {
        due.term("6 LAST: B: A | B.");
        asks(2, 6, "p, q, p|q, p&q, p|q", of(1));
        asks(2, 6, "q, p&q");
        asks(2, 6, "q, p>q");
        asks(2, 6, "p, q|r, r, p|q|r", of(2));
    }

    private static void on() {
        due.term("7 ON: A, A > B: B.");
        asks(2, 7, "p, p>q, q>p, -p|q, q", of(0, 1));
        asks(2, 7, "p, q, p>q>r, p&q>r, q>r", of(0, 2));
        asks(2, 7, "p, p>p, p", of(0, 1));
    }

    private static void twice() {
        due.term("8 TWICE: - - A: A.");
        asks(2, 8, "--p, -p, p, ---p, p", of(0));
        asks(2, 8, "----p, --p, p, --p", of(0));
        asks(2, 8, "p, --p");
    }

    private static void cases() {
        due.term("9 CASES: A | B, A > C, B > C: C.");
        asks(2, 9, "p|q, p>r, q>r, r", of(0, 1, 2));
        asks(2, 9, "q|p, p>r, q>r, r", of(0, 2, 1));
        asks(2, 9, "p|p, p>r, r", of(0, 1, 1));
        asks(2, 9, "p&q, p>r, q>r, r");
        asks(2, 9, "p|q, p>r, q>s, r");
        asks(2, 9, "p|q|s, p|q>r, s>r, r", of(0, 1, 2));
    }

    private static void given() {
        due.term("10 GIVEN: a LINE that is ASSUMED (RULE 1), of A, and B: A > B.");
        asks(2, 10, "p, q, p>q, p>q", of(0, 1));
        asks(2, 10, "p, p>p", of(0, 0));
        asks(2, 10, "p, q, p|q");
        asks(2, 10, "p, -p|q, q, -p|q");
        ProofShop shop = Due.shop("p", "q", "p>q");
        shop.believe(0, 0, true);
        shop.line(0, 0, 0, 0, NONE, NONE);
        shop.line(1, 0, ASSUMED, NONE, NONE, NONE);
        shop.line(1, 1, 3, NONE, NONE, NONE);
        shop.line(2, 0, 15, 1, NONE, NONE);
        shop.line(0, 0, ASSUMED, 0, NONE, NONE);
        boolean[] want = {false, true, false, false, true};
        for (int line = 0; line < want.length; line++) {
            due.is("of line " + line, want[line], shop.is(shop.line(0, 2, 10, line, 2, NONE), 0));
        }
    }

    private static void one() {
        due.term("11 ONE: all A: A with some THING in place of x.");
        for (int things = 1; things <= 3; things++) {
            for (int thing = 0; thing < things; thing++) {
                asks(things, 11, "all(fx>gx), some(fx>gx), f" + thing + ">g" + thing, of(0));
            }
        }
        asks(2, 11, "all(fx>gx), f0>g1");
        asks(2, 11, "all(fx>g0), f1>g0", of(0));
        asks(2, 11, "all(fx>g0), f1>g1");
        asks(2, 11, "all p, p", of(0));
        asks(2, 11, "all f0, f1");
        asks(2, 11, "-all fx, -f0");
    }

    private static void each() {
        due.term("12 EACH: as many as THINGS: A with THING 0, with 1, ..: all A.");
        asks(1, 12, "f0, all fx", of(0));
        asks(2, 12, "f0, f1, all fx", of(0, 1));
        asks(3, 12, "f0, f1, f2, all fx", of(0, 1, 2));
        asks(1, 12, "p, all p", of(0));
        asks(2, 12, "p, all p", of(0, 0));
        asks(3, 12, "p, all p", of(0, 0, 0));
        asks(2, 12, "f0, f1, some fx");
        asks(2, 12, "f0&f1, f1&f1, f0, all(fx&f1)", of(0, 1));
    }

    private static void there() {
        due.term("13 THERE: A with some THING: some A.");
        for (int things = 1; things <= 3; things++) {
            for (int thing = 0; thing < things; thing++) {
                asks(things, 13, "f" + thing + ">g" + thing + ", g0, some(fx>gx)", of(0));
            }
        }
        asks(2, 13, "f1&g0, f0&g0, f0&g1, some(fx&g0)", of(0), of(1));
        asks(2, 13, "f1, all fx");
        asks(2, 13, "p, some p", of(0));
    }

    private static void absurd() {
        due.term("14 ABSURD: A, - A: any.");
        for (String text : new String[] {"q", "p", "-p", "all(fx&-fx)"}) {
            asks(2, 14, "p, -p, --p, " + text, of(0, 1), of(1, 2));
        }
    }

    private static void bought() {
        due.term("15 BOUGHT: A, of another HOUSE: A.");
        for (int house = 0; house < 3; house++) {
            ProofShop shop = Due.shop("p", "(p)", "q");
            for (int of = 0; of < 3; of++) {
                shop.line(of, 0, 3, NONE, NONE, NONE);
            }
            for (int of = 0; of < 3; of++) {
                due.is("house " + house + " of " + of, house != of, shop.is(shop.line(house, 1, 15, of, NONE, NONE), 0));
                due.is("another formula", false, shop.is(shop.line(house, 2, 15, of, NONE, NONE), 0));
                due.is("of two", false, shop.is(shop.line(house, 1, 15, of, of, NONE), 0));
                due.is("of three", false, shop.is(shop.line(house, 1, 15, of, of, of), 0));
            }
            due.is("of none", false, shop.is(shop.line(house, 1, 15, NONE, NONE, NONE), 0));
        }
    }

    private static int lineOf(ProofShop shop, int house, int rule, int count) {
        int[] p = {NONE, NONE, NONE};
        for (int i = 0; i < count; i++) {
            p[i] = i < PREMISES[rule].length ? PREMISES[rule][i] : 0;
        }
        return shop.line(house, SAID[rule], rule, p[0], p[1], p[2]);
    }

    /** The examples, assumed by one house; customer 0 believes the first. */
    private static ProofShop examples(int house) {
        ProofShop shop = Due.shop(EXAMPLES);
        shop.believe(0, 0, true);
        for (int i = 0; i < EXAMPLES.length; i++) {
            shop.line(house, i, ASSUMED, NONE, NONE, NONE);
        }
        return shop;
    }

    private static void asManyAsAsked() {
        due.term("its premises are as many as that asks (ASSUMED, BELIEF none), and they and the FORMULA are so.");
        for (int rule = 1; rule <= 15; rule++) {
            for (int count = 0; count <= 3; count++) {
                ProofShop shop = examples(1);
                boolean isAsked = count == PREMISES[rule].length;
                due.is("rule " + rule + " of " + count, isAsked, shop.is(lineOf(shop, 0, rule, count), 0));
            }
        }
        ProofShop shop = examples(1);
        due.is("a belief has its customer alone", true, shop.is(lineOf(shop, 0, 0, 1), 0));
    }

    private static void houseHasRule() {
        due.term("A LINE is HONEST, if its HOUSE has the RULE,");
        for (int house = 0; house < 3; house++) {
            ProofShop shop = examples((house + 1) % 3);
            for (int rule = 0; rule <= 15; rule++) {
                int line = lineOf(shop, house, rule, PREMISES[rule].length);
                shop.rules(house, 1 << rule);
                due.is("it has rule " + rule + " alone", true, shop.is(line, 0));
                shop.rules(house, 65535 & ~(1 << rule));
                due.is("it has all but rule " + rule, false, shop.is(line, 0));
                shop.rules(house, 65535);
            }
            due.is("all again", 0, shop.count(5));
        }
    }
}
