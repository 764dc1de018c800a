/** Promises 25 to 29: the cheapest proof, its last rule, and where it is had. */
public final class ProofsTest {
    private static final Due due = new Due();
    private static final int NONE = ProofShop.NONE;

    public static void main(String[] args) {
        eachRule();
        noProof();
        binders();
        assumed();
        assumedOrBelieved();
        onlyThreeAssumed();
        paidEachTime();
        needsRules();
        lastly();
        firstForty();
        cutParts();
        tooDear();
        where();
        resold();
        forward();
        errors();
        due.close("ProofsTest");
    }

    /** The first formula is the goal; customer 0 believes the others. */
    private static ProofShop shop(int things, String... texts) {
        ProofShop shop = Due.shopOf(things, texts);
        for (int i = 1; i < texts.length; i++) {
            shop.believe(0, i, true);
        }
        return shop;
    }

    /** At first a line costs 10 and its signs. */
    private static void proves(int cost, int rule, int things, String... texts) {
        ProofShop shop = shop(things, texts);
        String what = String.join(", ", texts);
        due.is("cheapest " + what, cost, shop.cheapest(0, 0, 0));
        due.is("lastly " + what, rule, shop.lastly(0, 0, 0));
        due.is("where " + what, cost == NONE ? NONE : 0, shop.where(0, 0));
    }

    private static void eachRule() {
        proves(11, 0, 2, "p", "p");
        proves(13, 0, 2, "p>q", "((p)>q)");
        proves(11 + 11 + 13, 2, 2, "p&q", "p", "q");
        proves(13 + 11, 3, 2, "p", "p&q");
        proves(13 + 11, 4, 2, "q", "p&q");
        proves(11 + 13, 5, 2, "p|q", "p");
        proves(11 + 13, 6, 2, "p|q", "q");
        proves(11 + 13 + 11, 7, 2, "q", "p", "p>q");
        proves(13 + 11, 8, 2, "p", "--p");
        proves(13 + 13 + 13 + 11, 9, 2, "r", "p|q", "p>r", "q>r");
        proves(13 + 11 + 11, 10, 2, "p>p");
        proves(12 + 11, 11, 2, "f1", "all fx");
        proves(11 + 11 + 12, 12, 2, "all fx", "f0", "f1");
        proves(11 + 12, 13, 2, "some fx", "f1");
        proves(11 + 12 + 11, 14, 2, "q", "p", "-p");
    }

    private static void noProof() {
        proves(NONE, NONE, 2, "p");
        proves(NONE, NONE, 2, "q", "p");
        proves(NONE, NONE, 2, "p&q", "p");
        proves(NONE, NONE, 2, "q", "p|q");
        proves(NONE, NONE, 2, "r", "p|q", "p>r");
        proves(NONE, NONE, 2, "p", "q", "p>q");
        // What always holds need not have a proof, nor what follows: its lines are parts alone.
        proves(NONE, NONE, 2, "p|-p");
        proves(NONE, NONE, 2, "--p", "p");
        proves(NONE, NONE, 2, "q", "p|q", "-p");
    }

    private static void binders() {
        proves(12 + 11, 11, 3, "f2", "all fx");
        proves(11 + 12, 12, 1, "all fx", "f0");
        proves(NONE, NONE, 2, "all fx", "f0");
        proves(11 + 11 + 11 + 12, 12, 3, "all fx", "f0", "f2", "f1");
        proves(NONE, NONE, 3, "all fx", "f0", "f2");
        proves(NONE, NONE, 2, "some fx", "g1");
        proves(12 + 11, 11, 2, "p", "all p");
        // f1 > g1 by ONE, g1 by ON, some gx by THERE.
        proves(14 + 13 + 11 + 11, 7, 2, "g1", "all(fx>gx)", "f1");
        proves(14 + 13 + 11 + 11 + 12, 13, 2, "some gx", "all(fx>gx)", "f1");
        // fx & gx with each thing, and the parts of these.
        proves(2 * (14 + 13 + 11) + 12, 12, 2, "all gx", "all(fx&gx)");
        proves(14 + 13 + 11, 4, 2, "g1", "all(fx&gx)");
        proves(11 + 13 + 14, 13, 2, "some(fx|g0)", "f1");
    }

    private static void assumed() {
        // p > (q|p): 5 signs; the assumed line; q|p; p.
        proves(15 + 11 + 13 + 11, 10, 2, "p>q|p");
        // p > (q > p&q): within, GIVEN again; each assumed line once for its GIVEN, and once where it is a premise.
        proves(17 + 11 + 15 + 11 + 13 + 11 + 11, 10, 2, "p>q>p&q");
        proves(15 + 11 + 13 + 11 + 11, 10, 2, "p>p>p");
        // p > q is assumed; q by ON.
        proves(15 + 13 + 11 + 11 + 13, 10, 2, "(p>q)>q", "p");
        // p is assumed; q by ABSURD.
        proves(13 + 11 + 11 + 11 + 12, 10, 2, "p>q", "-p");
        // Within a proof: r by ON from p>p.
        proves(15 + 35 + 11, 7, 2, "r", "(p>p)>r");
        // p & q is no A of a part A > B, so it is not assumed.
        proves(NONE, NONE, 2, "(r>p&q)>r", "p&q");
    }

    private static void assumedOrBelieved() {
        ProofShop shop = shop(2, "p>p", "p");
        shop.price(0, 1, 50);
        due.is("p by belief", 13 + 51 + 11, shop.cheapest(0, 0, 0));
        shop.price(0, 0, 90);
        due.is("p assumed", 13 + 51 + 51, shop.cheapest(0, 0, 0));
        due.is("none is assumed for p itself", 91, shop.cheapest(0, 0, 1));
        due.is("nor for one who does not believe it", NONE, shop.cheapest(0, 1, 1));
        due.is("p>p is for all", 13 + 51 + 51, shop.cheapest(0, 1, 0));
    }

    private static void onlyThreeAssumed() {
        proves(17 + 11 + 15 + 11 + 13 + 11 + 11, 10, 2, "p>q>r>r");
        proves(NONE, NONE, 2, "p>q>r>s>s");
        proves(19 + 11 + 17 + 11 + 15 + 11 + 13 + 11 + 11, 10, 2, "p>q>r>p>p");
        proves(21 + 17 + 3 * 35, 2, 2, "(p>p)&(q>q)&(r>r)");
        proves(NONE, NONE, 2, "(p>p)&(q>q)&(r>r)&(s>s)");
        proves(25 + 21 + 17 + 3 * 35 + 13, 2, 2, "(p>p)&(q>q)&(r>r)&(s>s)", "s>s");
        // SAME ones count once.
        proves(25 + 21 + 17 + 4 * 35, 2, 2, "(p>p)&(q>q)&((p)>p)&(r>r)");
        // The goal's come first, then those of beliefs.
        proves(35, 10, 2, "s>s", "p>r", "q>r", "r>q");
        proves(15 + 35 + 11, 7, 2, "f0", "(s>s)>f0", "p>r", "q>r", "r>q");
        // There p, q, s>s are the first three, s is the fourth.
        proves(NONE, NONE, 2, "f0", "p>r", "q>r", "(s>s)>f0");
        proves(15 + 35 + 11, 7, 2, "f0", "p>r", "(s>s)>f0", "q>r");
    }

    private static void paidEachTime() {
        proves(11 + 11 + 12, 12, 2, "all p", "p");
        // p by LEFT, twice.
        proves(2 * (13 + 11) + 13, 2, 2, "p&p", "p&q");
        proves(2 * (2 * 11 + 13) + 17, 2, 2, "(p&p)&(p&p)", "p");
    }

    private static void needsRules() {
        String[][] proofs = {
            {"p", "p"}, {"p>p"}, {"p&q", "p", "q"}, {"p", "p&q"}, {"q", "p&q"}, {"p|q", "p"}, {"p|q", "q"},
            {"q", "p", "p>q"}, {"p", "--p"}, {"r", "p|q", "p>r", "q>r"}, {"p>p"}, {"f1", "all fx"},
            {"all fx", "f0", "f1"}, {"some fx", "f1"}, {"q", "p", "-p"},
        };
        for (int rule = 0; rule < proofs.length; rule++) {
            ProofShop shop = shop(2, proofs[rule]);
            shop.rules(0, 65535 & ~(1 << rule));
            due.is("without rule " + rule, NONE, shop.cheapest(0, 0, 0));
            due.is("lastly without rule " + rule, NONE, shop.lastly(0, 0, 0));
            due.is("in another house", false, shop.cheapest(1, 0, 0) == NONE);
            shop.rules(0, 1 << rule | (rule > 1 ? 1 : 0) | (rule == 10 || rule == 1 ? 1 << 10 | 2 : 0));
            due.is("with few rules " + rule, shop.cheapest(1, 0, 0), shop.cheapest(0, 0, 0));
        }
        ProofShop shop = shop(2, "q", "p", "-p");
        shop.price(0, 14, 99);
        shop.price(0, 0, 0);
        shop.price(0, 16, 9);
        due.is("prices", 99 + 9 + 9 + 18, shop.cheapest(0, 0, 0));
        due.is("of another house", 34, shop.cheapest(1, 0, 0));
    }

    private static void lastly() {
        ProofShop shop = shop(2, "p|p", "p");
        due.is("of two the least", 5, shop.lastly(0, 0, 0));
        shop.price(0, 5, 11);
        due.is("the cheaper", 6, shop.lastly(0, 0, 0));
        ProofShop both = shop(2, "p", "p", "p&q");
        due.is("a belief", 0, both.lastly(0, 0, 0));
        both.price(0, 0, 0);
        both.price(0, 3, 0);
        both.price(0, 16, 0);
        due.is("the least of the same cost", 0, both.lastly(0, 0, 0));
        both.rules(0, 65534);
        due.is("no belief, no proof", NONE, both.lastly(0, 0, 0));
        // p & r has the cost 0 by p itself; by what the document says LEFT is just as cheap as ON then.
        ProofShop round = shop(2, "p", "q", "q>p", "r", "p&r>s");
        due.is("by ON", 7, round.lastly(0, 0, 0));
        for (int rule = 0; rule <= 16; rule++) {
            round.price(0, rule, 0);
        }
        due.is("all for nothing", 0, round.cheapest(0, 0, 0));
        due.is("the least rule that costs as much", 3, round.lastly(0, 0, 0));
    }

    private static String row(String begin, String sign, int times) {
        StringBuilder text = new StringBuilder(begin);
        for (int i = 0; i < times; i++) {
            text.append('&').append(sign.charAt(i % sign.length()));
        }
        return text.toString();
    }

    /** The goal has 3 parts, the long belief needs 18 more in a row: 19 others may stand between, and no more. */
    private static void firstForty() {
        String goal = "g0&g1";
        String belief = row(goal, "r", 18);
        int cost = 49 + 18 * 10 + (3 + 37) * 18 / 2;
        for (int others = 17; others <= 20; others++) {
            ProofShop shop = shop(2, goal, row("p", "qp", others - 2), belief);
            shop.rules(0, 65535 & ~4);
            due.is("others " + others, others <= 19 ? cost : NONE, shop.cheapest(0, 0, 0));
            ProofShop turned = shop(2, goal, belief, row("p", "qp", others - 2));
            turned.rules(0, 65535 & ~4);
            due.is("others behind " + others, cost, turned.cheapest(0, 0, 0));
        }
    }

    /** The goal, 22 to 39 parts of two other beliefs, and beliefs behind these whose last part may be beyond forty. */
    private static void cutAt(int others, int cost, int things, String goal, String... behind) {
        String[] texts = new String[behind.length + 3];
        texts[0] = goal;
        texts[1] = row("q", "rq", 19);
        texts[2] = row("q", "rq", others - 21).replace('&', '|');
        System.arraycopy(behind, 0, texts, 3, behind.length);
        due.is("cheapest with " + others + " others", cost, shop(things, texts).cheapest(0, 0, 0));
    }

    private static void cutParts() {
        cutAt(35, 11 + 15 + 13 + 11 + 11, 2, "g0", "p", "p&s>g0", "s");
        cutAt(36, NONE, 2, "g0", "p", "p&s>g0", "s");
        cutAt(37, 11 + 13 + 11, 2, "g0", "s>g0", "s");
        cutAt(38, NONE, 2, "g0", "s>g0", "s");
        cutAt(35, 11 + 14 + 12 + 11 + 11, 2, "g0", "f0", "all fx>g0", "f1");
        cutAt(36, NONE, 2, "g0", "f0", "all fx>g0", "f1");
        cutAt(34, 11 + 14 + 12 + 11 + 11 + 11, 3, "g0", "f0", "f1", "all fx>g0", "f2");
        cutAt(35, NONE, 3, "g0", "f0", "f1", "all fx>g0", "f2");
        cutAt(35, 11 + 14 + 12 + 11, 2, "g0", "some fx>g0", "f0", "f1");
        cutAt(37, NONE, 2, "g0", "some fx>g0", "f0", "f1");
        // The 40th is s>g1, whose s is beyond: it cannot be assumed, though g1 is believed.
        cutAt(35, 11 + 15 + 13 + 11 + 11, 2, "g0", "g1", "(s>g1)>g0");
        cutAt(36, NONE, 2, "g0", "g1", "(s>g1)>g0");
    }

    /** Each atom is proved from two of the one before it: costs double. */
    private static void tooDear() {
        String[] atoms = {"p", "q", "r", "s", "f0", "f1", "f2", "g0", "g1"};
        String[] texts = new String[10];
        texts[0] = "(g1|g1)|g1";
        texts[1] = "p";
        for (int i = 0; i < 8; i++) {
            texts[i + 2] = atoms[i] + "&" + atoms[i] + ">" + atoms[i + 1];
        }
        ProofShop shop = shop(3, texts);
        shop.rules(0, 65535 & ~(1 << 6));
        shop.price(0, 16, 9);
        shop.price(0, 0, 99);
        shop.price(0, 2, 99);
        shop.price(0, 7, 4);
        shop.price(0, 5, 57);
        due.is("just not too dear", 99999, shop.cheapest(0, 0, 0));
        due.is("its rule", 5, shop.lastly(0, 0, 0));
        shop.price(0, 5, 58);
        due.is("too dear", NONE, shop.cheapest(0, 0, 0));
        due.is("no rule", NONE, shop.lastly(0, 0, 0));
        shop.price(0, 5, 57);
        shop.rules(2, 1);
        shop.rules(1, 32768);
        due.is("resold is no such cost", 99999 + 15, shop.resold(1, 0, 0));
    }

    private static void where() {
        ProofShop shop = shop(2, "q", "p", "p>q", "r");
        due.is("of several the least", 0, shop.where(0, 0));
        shop.price(2, 7, 9);
        due.is("the cheapest", 2, shop.where(0, 0));
        shop.rules(2, 0);
        shop.rules(0, 1);
        due.is("the only one", 1, shop.where(0, 0));
        shop.rules(1, 0);
        due.is("none", NONE, shop.where(0, 0));
        due.is("a belief is had", 0, shop.where(0, 1));
        due.is("for another customer none", NONE, shop.where(1, 1));
    }

    private static void resold() {
        ProofShop shop = shop(2, "q", "p", "p>q", "r");
        due.is("35 and a line", 46, shop.resold(0, 0, 0));
        shop.price(0, 15, 3);
        shop.price(0, 16, 5);
        due.is("by its prices", 35 + 8, shop.resold(0, 0, 0));
        shop.price(2, 0, 0);
        due.is("the least of the others", 15 + 8, shop.resold(0, 0, 0));
        shop.price(0, 0, 0);
        due.is("not its own", 15 + 11, shop.resold(1, 0, 0));
        shop.rules(0, 32767);
        due.is("without the rule", NONE, shop.resold(0, 0, 0));
        shop.rules(0, 32768);
        due.is("with it alone", 15 + 8, shop.resold(0, 0, 0));
        due.is("none of its own", NONE, shop.cheapest(0, 0, 0));
        shop.rules(1, 0);
        shop.rules(2, 0);
        due.is("none of the others", NONE, shop.resold(0, 0, 0));
        due.is("no proof at all", NONE, shop.resold(0, 1, 3));
    }

    private static void forward() {
        ProofShop shop = shop(2, "q", "p", "p>q");
        due.is("dearer", 0, shop.forward(0, 0, 0));
        shop.price(0, 7, 21);
        due.is("as dear", 0, shop.forward(0, 0, 0));
        shop.price(0, 7, 22);
        due.is("one less", 1, shop.forward(0, 0, 0));
        shop.price(0, 7, 99);
        due.is("much less", 124 - 46, shop.forward(0, 0, 0));
        shop.rules(0, 32767);
        due.is("without rule 15", 0, shop.forward(0, 0, 0));
        shop.rules(0, 32768);
        due.is("none of its own", NONE, shop.forward(0, 0, 0));
        due.is("none at all", NONE, shop.forward(0, 1, 1));
    }

    private static void errors() {
        ProofShop shop = shop(2, "p");
        int[][] wrong = {{3, 0, 0}, {-1, 0, 0}, {0, 4, 0}, {0, -1, 0}, {0, 0, 1}, {0, 0, -1}};
        for (int[] a : wrong) {
            due.fails("cheapest", Due.INDEX, () -> shop.cheapest(a[0], a[1], a[2]));
            due.fails("lastly", Due.INDEX, () -> shop.lastly(a[0], a[1], a[2]));
            due.fails("resold", Due.INDEX, () -> shop.resold(a[0], a[1], a[2]));
            due.fails("forward", Due.INDEX, () -> shop.forward(a[0], a[1], a[2]));
        }
        due.fails("where 4 0", Due.INDEX, () -> shop.where(4, 0));
        due.fails("where 0 1", Due.INDEX, () -> shop.where(0, 1));
        due.fails("where -1 0", Due.INDEX, () -> shop.where(-1, 0));
    }
}
