/** Edges of the cheapest proof, a test for each sentence: promises 25 to 29. */
public final class BoundaryProofsTest {
    private static final Due due = new Due();
    private static final int NONE = ProofShop.NONE;
    private static final int LEAST = Integer.MIN_VALUE;
    private static final int MOST = Integer.MAX_VALUE;
    private static final int SIGN = 16;

    public static void main(String[] args) {
        cheapest();
        byEachRule();
        askedAgain();
        forNothing();
        noSuchInProof();
        rulesButBought();
        paidEachTime();
        allParts();
        firstForty();
        notSame();
        goalFirst();
        beliefsByNumbers();
        partsInOrder();
        partsOfAllAndSome();
        onlyPartsAssumed();
        firstThree();
        firstThreeNotSame();
        discharged();
        linesOfEach();
        given();
        ruleOneToo();
        amongThose();
        tooDear();
        none();
        lastly();
        lastlyLeast();
        where();
        whereLeast();
        resold();
        resoldNone();
        forward();
        forwardNone();
        due.close("BoundaryProofsTest");
    }

    /** The first formula is the goal; customer 3 believes the others. */
    private static ProofShop shop(int things, String... texts) {
        ProofShop shop = Due.shopOf(things, texts);
        for (int i = 1; i < texts.length; i++) {
            shop.believe(3, i, true);
        }
        return shop;
    }

    private static void proves(int cost, int things, String... texts) {
        due.is("cheapest " + String.join(", ", texts), cost, shop(things, texts).cheapest(0, 3, 0));
    }

    /** Of p and q alone: 21 parts with &, and behind them more with |. */
    private static String[] withOthers(int others, String goal, String... behind) {
        String[] texts = new String[behind.length + 3];
        texts[0] = goal;
        texts[1] = "p&q" + "&p".repeat(18);
        texts[2] = "p" + "|q".repeat(others - 21);
        System.arraycopy(behind, 0, texts, 3, behind.length);
        return texts;
    }

    private static void cheapest() {
        due.promise(25, "CHEAPEST: the COST, none being ASSUMED; NONE.");
        ProofShop shop = Due.fullOf(2, "p>p", "p");
        due.is("none is assumed", NONE, shop.cheapest(2, 3, 29));
        due.is("but within", 35, shop.cheapest(2, 3, 0));
        shop.believe(3, 29, true);
        due.is("the last of all", 11, shop.cheapest(2, 3, 29));
        due.is("what is SAME", 11, shop.cheapest(2, 3, 1));
        due.is("for another", NONE, shop.cheapest(2, 2, 29));
    }

    private static void proves(int cost, int rule, int things, String... texts) {
        ProofShop shop = shop(things, texts);
        String what = String.join(", ", texts);
        due.is("cheapest " + what, cost, shop.cheapest(0, 3, 0));
        due.is("lastly " + what, rule, shop.lastly(0, 3, 0));
        shop.rules(0, 65535 & ~(1 << rule));
        due.is("without rule " + rule + " " + what, NONE, shop.cheapest(0, 3, 0));
        due.is("lastly of none " + what, NONE, shop.lastly(0, 3, 0));
    }

    private static void byEachRule() {
        due.term("any other as its LINE and the COSTS of its premises");
        proves(11, 0, 2, "p", "p");
        proves(11 + 11 + 13, 2, 2, "p&q", "p", "q");
        proves(13 + 11, 3, 2, "p", "p&q");
        proves(13 + 11, 4, 2, "q", "p&q");
        proves(11 + 13, 5, 2, "p|q", "p");
        proves(11 + 13, 6, 2, "p|q", "q");
        proves(11 + 13 + 11, 7, 2, "q", "p", "p>q");
        proves(13 + 11, 8, 2, "p", "--p");
        proves(13 + 13 + 13 + 11, 9, 2, "r", "p|q", "p>r", "q>r");
        proves(13 + 13 + 13 + 11, 9, 2, "r", "p>r", "q>r", "p|q");
        due.is("of another first", NONE, shop(2, "r", "p|q", "s>r", "q>r").cheapest(0, 3, 0));
        due.is("of another second", NONE, shop(2, "r", "p|q", "p>r", "s>r").cheapest(0, 3, 0));
        due.is("of another C", NONE, shop(2, "r", "p|q", "p>r", "q>s").cheapest(0, 3, 0));
        proves(13 + 11 + 11, 10, 2, "p>p");
        proves(12 + 11, 11, 2, "f1", "all fx");
        proves(11 + 11 + 12, 12, 2, "all fx", "f0", "f1");
        proves(11 + 12, 13, 2, "some fx", "f1");
        proves(11 + 12 + 11, 14, 2, "q", "p", "-p");
        // The goal itself is assumed, and stands against p there.
        proves(17 + 14 + 12 + 11 + 11 + 12 + 12, 7, 2, "-p", "p", "(-p>r)>-p");
        // The same of CASES: p>r is assumed, so that r is had from p|p.
        proves(19 + 15 + 13 + 11 + 13 + 13 + 13 + 13, 7, 2, "p>r", "p|p", "((p>r)>r)>p>r");
    }

    private static void askedAgain() {
        due.promise(25, "CHEAPEST: the COST, none being ASSUMED; NONE.");
        ProofShop shop = Due.shop("p>q>r>r", "s>s", "s", "(q>q)|s", "p&-p>s");
        for (int time = 0; time < 3; time++) {
            due.is("three assumed", 89, shop.cheapest(0, 0, 0));
            due.is("another", 35, shop.cheapest(0, 0, 1));
            due.is("none", NONE, shop.cheapest(0, 0, 2));
            due.is("one more", 35 + 15, shop.cheapest(0, 0, 3));
            due.is("lastly", 5, shop.lastly(0, 0, 3));
            due.is("where", 0, shop.where(0, 3));
            // p&-p is assumed, p and -p are its sides: s by ABSURD.
            due.is("the last", 16 + 14 + 14 + 14 + 11 + 12 + 11, shop.cheapest(0, 0, 4));
        }
        // What was looked at for one customer is nothing for the next.
        ProofShop two = Due.shop("r", "p|q", "p>r", "q>r");
        for (int formula = 1; formula <= 3; formula++) {
            two.believe(0, formula, true);
            two.believe(1, formula, formula < 3);
        }
        due.is("he has both", 13 + 13 + 13 + 11, two.cheapest(0, 0, 0));
        due.is("he has one", NONE, two.cheapest(0, 1, 0));
        due.is("he has none", NONE, two.cheapest(0, 2, 0));
    }

    private static void forNothing() {
        due.term("COST of a FORMULA, some of these being ASSUMED: the least:");
        ProofShop shop = shop(2, "q", "p", "p>q");
        for (int rule = 0; rule <= SIGN; rule++) {
            shop.price(0, rule, 0);
        }
        due.is("0 is a cost", 0, shop.cheapest(0, 3, 0));
        due.is("0 is the cheapest", 0, shop.where(3, 0));
        due.is("0 and a line", 11, shop.resold(1, 3, 0));
        due.is("0 less 0", 0, shop.forward(0, 3, 0));
        due.is("none for nothing", NONE, shop.cheapest(0, 2, 0));
        ProofShop dear = shop(2, "-p" + "&p".repeat(19), "-p" + "&p".repeat(19));
        dear.price(0, 0, 99);
        dear.price(0, SIGN, 9);
        due.is("the dearest line", 99 + 360, dear.cheapest(0, 3, 0));
        // By LEFT it is 99 + 27 + 10 + 9, as a belief 99 + 9.
        ProofShop both = shop(2, "p", "p&q", "p");
        both.price(0, 0, 99);
        due.is("the lesser of two", 100, both.cheapest(0, 3, 0));
        both.believe(3, 2, false);
        due.is("the other", 102 + 11, both.cheapest(0, 3, 0));
        // All follows by ABSURD at once, but by ON it is cheaper, though that needs three steps from the last told to the first.
        ProofShop steps = shop(2, "s", "r>s", "q>r", "p>q", "p", "f0", "-f0");
        steps.price(0, 14, 99);
        due.is("by three steps", 11 + 3 * (13 + 11), steps.cheapest(0, 3, 0));
        due.is("the last of them", 7, steps.lastly(0, 3, 0));
        steps.rules(0, 65535 & ~(1 << 7));
        due.is("by ABSURD", 11 + 12 + 100, steps.cheapest(0, 3, 0));
    }

    private static void noSuchInProof() {
        due.term("IndexOutOfBoundsException: there is no such FORMULA, HOUSE, RULE, CUSTOMER, LINE, RECEIPT.");
        ProofShop shop = Due.fullOf(2, "p");
        int[] houses = {-1, 3, LEAST, MOST};
        int[] customers = {-1, 4, LEAST, MOST};
        int[] formulas = {-1, 30, LEAST, MOST};
        due.refuses("cheapest by house", Due.INDEX, n -> shop.cheapest(n, 0, 0), houses);
        due.refuses("cheapest for customer", Due.INDEX, n -> shop.cheapest(0, n, 0), customers);
        due.refuses("cheapest of formula", Due.INDEX, n -> shop.cheapest(0, 0, n), formulas);
        due.refuses("lastly by house", Due.INDEX, n -> shop.lastly(n, 0, 0), houses);
        due.refuses("lastly for customer", Due.INDEX, n -> shop.lastly(0, n, 0), customers);
        due.refuses("lastly of formula", Due.INDEX, n -> shop.lastly(0, 0, n), formulas);
        due.refuses("where for customer", Due.INDEX, n -> shop.where(n, 0), customers);
        due.refuses("where of formula", Due.INDEX, n -> shop.where(0, n), formulas);
        due.refuses("resold by house", Due.INDEX, n -> shop.resold(n, 0, 0), houses);
        due.refuses("resold for customer", Due.INDEX, n -> shop.resold(0, n, 0), customers);
        due.refuses("resold of formula", Due.INDEX, n -> shop.resold(0, 0, n), formulas);
        due.refuses("forward by house", Due.INDEX, n -> shop.forward(n, 0, 0), houses);
        due.refuses("forward for customer", Due.INDEX, n -> shop.forward(0, n, 0), customers);
        due.refuses("forward of formula", Due.INDEX, n -> shop.forward(0, 0, n), formulas);
    }

    private static void rulesButBought() {
        due.term("CHEAPEST proof of a FORMULA for a CUSTOMER by a HOUSE (its RULES but 15), as a tree:");
        ProofShop shop = shop(2, "q", "p", "p>q");
        shop.price(0, 15, 0);
        shop.price(0, SIGN, 0);
        shop.line(1, 0, 1, NONE, NONE, NONE);
        due.is("not bought", 30, shop.cheapest(0, 3, 0));
        shop.rules(0, 32768);
        due.is("by 15 alone", NONE, shop.cheapest(0, 3, 0));
        due.is("no belief by 15", NONE, shop.cheapest(0, 3, 1));
        shop.rules(0, 32767);
        due.is("without 15", 30, shop.cheapest(0, 3, 0));
        shop.rules(0, 0);
        due.is("by no rule", NONE, shop.cheapest(0, 3, 0));
    }

    private static void paidEachTime() {
        due.term("each LINE that is needed is paid each time it is needed.");
        proves(11 + 11 + 13, 2, "p&p", "p");
        proves(2 * (13 + 11) + 13, 2, "p&p", "p&q");
        proves(4 * 11 + 2 * 13 + 17, 2, "(p&p)&(p&p)", "p");
        for (int things = 1; things <= 3; things++) {
            proves(things * 11 + 12, things, "all p", "p");
        }
    }

    private static void allParts() {
        due.term("The FORMULAS looked at: all parts of the goal and of what he believes");
        // p&q is a part of the goal, of a belief, of none; and told to another.
        proves(11 + 11 + 13 + 15, 2, "p&q|r", "p", "q");
        proves(11 + 11 + 13 + 15 + 11, 2, "s", "p", "q", "p&q>s");
        ProofShop shop = Due.shop("s", "p", "q", "p&q", "s&r");
        shop.believe(3, 1, true);
        shop.believe(3, 2, true);
        shop.believe(0, 4, true);
        due.is("what another believes is no part", NONE, shop.cheapest(0, 3, 0));
        due.is("what he believes", 24, shop.cheapest(0, 0, 0));
        due.is("the goal alone", 35, shop.cheapest(0, 3, 3));
        due.is("nothing told, no goal that follows", NONE, shop.cheapest(0, 2, 3));
        // Without ON, r is proved by CASES alone, and p|q is asked for that.
        ProofShop cases = Due.shop("p>r", "q>r", "p", "p|q|s", "r");
        cases.rules(0, 65535 & ~(1 << 7));
        for (int formula = 0; formula < 3; formula++) {
            cases.believe(3, formula, true);
        }
        due.is("p|q is told, but not believed", NONE, cases.cheapest(0, 3, 4));
        cases.believe(3, 3, true);
        due.is("a part of what he believes", 13 + 13 + 11 + 13 + 11, cases.cheapest(0, 3, 4));
        due.is("formula 0 is a belief, too", 13, cases.cheapest(0, 3, 0));
        due.is("of formula 0", 11 + 13 + 11, cases.cheapest(1, 3, 4));
    }

    private static void firstForty() {
        due.term("the first 40 of them that are not SAME:");
        proves(13 + 11, 2, withOthers(37, "s", "r&s"));
        proves(13 + 11, 2, withOthers(38, "s", "r&s"));
        proves(NONE, 2, withOthers(39, "s", "r&s"));
        proves(NONE, 2, withOthers(40, "s", "r&s"));
        // - has one part alone: -r and r are two places.
        proves(13 + 11, 2, withOthers(36, "s", "-r", "r&s"));
        proves(NONE, 2, withOthers(37, "s", "-r", "r&s"));
        isFortieth(13 + 11, 38);
        isFortieth(NONE, 39);
        // A belief that is itself the goal is looked at, though all others come behind forty.
        proves(11, 2, withOthers(40, "s", "s"));
    }

    /** An atom has no parts: r, told right behind the goal q and believed by nobody, takes no place. */
    private static void isFortieth(int cost, int others) {
        ProofShop shop = Due.shop("q", "r", "p&s" + "&p".repeat(18), "p" + "|s".repeat(others - 21), "f0&q");
        for (int formula = 2; formula <= 4; formula++) {
            shop.believe(3, formula, true);
        }
        due.is("behind " + others + " others", cost, shop.cheapest(0, 3, 0));
    }

    private static void notSame() {
        due.term("the first 40 of them that are not SAME: goal first,");
        String[] texts = withOthers(38, "s", "(s)", "(p&q)", "p", "((p))", "(p|q)|q", "r&s");
        proves(13 + 11, 2, withOthers(38, "s", "(p&q)", "p", "((p))", "(p|q)|q", "r&s"));
        proves(11, 2, texts);
        proves(NONE, 2, withOthers(39, "s", "(p&q)", "p", "((p))", "(p|q)|q", "r&s"));
    }

    private static void goalFirst() {
        due.term("goal first, then beliefs by numbers,");
        // The goal's three parts are there, though forty others are told ahead of it.
        ProofShop shop = Due.shop("p&q" + "&p".repeat(18), "p" + "|q".repeat(19), "r", "s", "r&s");
        shop.believe(3, 0, true);
        shop.believe(3, 1, true);
        shop.believe(3, 2, true);
        shop.believe(3, 3, true);
        due.is("goal first", 11 + 11 + 13, shop.cheapest(0, 3, 4));
        // With one other fewer than forty, the goal s takes the first place of them.
        proves(NONE, 2, withOthers(39, "s", "r&s"));
        proves(13 + 11, 2, withOthers(38, "s", "r&s"));
    }

    private static void beliefsByNumbers() {
        due.term("then beliefs by numbers, of each it itself,");
        String[] behind = withOthers(39, "s", "r&s");
        String[] ahead = {behind[0], behind[3], behind[1], behind[2]};
        proves(NONE, 2, behind);
        proves(13 + 11, 2, ahead);
        // He is told in another order: the numbers count.
        ProofShop shop = Due.shop(behind);
        shop.believe(3, 3, true);
        shop.believe(3, 2, true);
        shop.believe(3, 1, true);
        due.is("told in another order", NONE, shop.cheapest(0, 3, 0));
        ProofShop other = Due.shop(ahead);
        other.believe(3, 3, true);
        other.believe(3, 2, true);
        other.believe(3, 1, true);
        due.is("told in another order", 24, other.cheapest(0, 3, 0));
    }

    private static void partsInOrder() {
        due.term("then its parts from left to right, each with its parts.");
        // Behind the goal and the others: it itself, f1&f0, f1, f0, g0&s: five places.
        String belief = "(f1&f0)&(g0&s)";
        int cost = 17 + 13 + 11;
        proves(cost, 2, withOthers(34, "s", belief));
        proves(NONE, 2, withOthers(35, "s", belief));
        // g0&s is the left part: it itself, g0&s: two places, and so on.
        String turned = "(g0&s)&(f1&f0)";
        proves(cost, 2, withOthers(37, "s", turned));
        proves(NONE, 2, withOthers(38, "s", turned));
    }

    private static void partsOfAllAndSome() {
        due.term("(a part of all and some: with each THING in place of x)");
        // It itself, f0&s: two places.
        proves(14 + 13 + 11, 3, withOthers(37, "s", "all(fx&s)"));
        proves(NONE, 3, withOthers(38, "s", "all(fx&s)"));
        // f2&g0 comes behind f0&g0, f0, g0, f1&g0, f1.
        proves(14 + 13 + 11, 3, withOthers(32, "f2", "all(fx&g0)"));
        proves(NONE, 3, withOthers(33, "f2", "all(fx&g0)"));
        // some fx > s, some fx, f0, f1, f2: the last place is needed for f2 itself.
        proves(11 + 12 + 14 + 11, 3, withOthers(34, "s", "some fx>s", "f2"));
        proves(NONE, 3, withOthers(35, "s", "some fx>s", "f2"));
        for (int things = 1; things <= 3; things++) {
            proves(12 + 11, things, "f" + (things - 1), "all fx");
            proves(11 + 12, things, "some fx", "f" + (things - 1));
        }
    }

    private static void onlyPartsAssumed() {
        due.term("ASSUMED are only A of parts A > B among these,");
        proves(13 + 11 + 11, 2, "p>p");
        proves(NONE, 2, "p|q", "r>p");
        proves(NONE, 2, "p", "-p>p");
        // A > B is the 40th, and its A is beyond: it is not assumed.
        proves(11 + 11 + 13 + 15 + 11, 2, withOthers(35, "s", "r", "(f0>r)>s"));
        proves(NONE, 2, withOthers(36, "s", "r", "(f0>r)>s"));
    }

    private static void firstThree() {
        due.term("the first 3 that are not SAME, in that order;");
        proves(17 + 11 + 15 + 11 + 13 + 11 + 11, 2, "p>q>r>r");
        proves(NONE, 2, "p>q>r>s>s");
        // The first three of four: s is none of them, r is.
        proves(19 + 11 + 17 + 11 + 15 + 11 + 13, 2, "p>q>r>s>r", "s>r");
        proves(NONE, 2, "p>q>r>s>r");
        proves(3 * 35 + 17 + 21, 2, "(p>p)&(q>q)&(r>r)");
        proves(NONE, 2, "(p>p)&(q>q)&(r>r)&(s>s)");
        // The goal's come first, then those of beliefs by numbers.
        proves(35, 2, "s>s", "p>f0", "q>f0", "r>f0");
        proves(15 + 35 + 11, 2, "f1", "p>f0", "(s>s)>f1", "q>f0");
        proves(NONE, 2, "f1", "p>f0", "q>f0", "(s>s)>f1");
    }

    private static void firstThreeNotSame() {
        due.term("the first 3 that are not SAME,");
        proves(4 * 35 + 17 + 21 + 25, 2, "(p>p)&(q>q)&((p)>p)&(r>r)");
        proves(15 + 35 + 11, 2, "f1", "p>f0", "(p)>r", "((p))>s", "(s>s)>f1");
    }

    private static void discharged() {
        due.term("by GIVEN they are discharged.");
        proves(35, 2, "p>p");
        // p is assumed within p>p alone.
        proves(NONE, 2, "(p>p)&p");
        proves(NONE, 2, "p", "(p>p)|q");
        proves(35 + 17 + 35, 2, "(p>p)&(p>p)");
        proves(35 + 35 + 17, 2, "(p>p)&(q>q)");
        // Within q>, p is assumed still.
        proves(15 + 11 + 13 + 11 + 11, 2, "p>q>p");
        // What is assumed already may be assumed again.
        proves(15 + 11 + 13 + 11 + 11, 2, "p>p>p");
    }

    private static void linesOfEach() {
        due.term("a BELIEF costs as a LINE of RULE 0, one of the ASSUMED as a LINE of RULE 1; any other as its LINE and the COSTS of its premises");
        ProofShop shop = shop(2, "p>p&q", "q");
        shop.price(0, 0, 1);
        shop.price(0, 1, 20);
        shop.price(0, 2, 0);
        shop.price(0, 10, 99);
        shop.price(0, 16, 9);
        due.is("q, p, p&q, p again, p>p&q", 10 + 29 + 27 + 29 + 99 + 45, shop.cheapest(0, 3, 0));
        shop.price(0, 16, 0);
        due.is("signs for nothing", 1 + 20 + 0 + 20 + 99, shop.cheapest(0, 3, 0));
        due.is("a belief", 1, shop.cheapest(0, 3, 1));
        due.is("of another house", 11 + 11 + 13 + 11 + 15, shop.cheapest(1, 3, 0));
    }

    private static void given() {
        due.term("(of GIVEN: that of B, with A ASSUMED, too, and that of the ASSUMED LINE of A, once;");
        ProofShop shop = shop(2, "p>q", "q");
        due.is("B does not need A", 13 + 11 + 11, shop.cheapest(0, 3, 0));
        shop.price(0, 1, 99);
        due.is("A is paid all the same", 13 + 11 + 100, shop.cheapest(0, 3, 0));
        ProofShop both = Due.shop("p>p&p");
        both.price(0, 1, 50);
        due.is("once, and as often as it is needed", 15 + 51 + 13 + 2 * 51, both.cheapest(0, 3, 0));
    }

    private static void ruleOneToo() {
        due.term("the HOUSE must have RULE 1, too);");
        ProofShop shop = shop(2, "p>q", "q");
        shop.rules(0, 65535 & ~2);
        due.is("without 1", NONE, shop.cheapest(0, 3, 0));
        shop.rules(0, 65535 & ~(1 << 10));
        due.is("without 10", NONE, shop.cheapest(0, 3, 0));
        shop.rules(0, 1 | 2 | 1 << 10);
        due.is("with both", 35, shop.cheapest(0, 3, 0));
        shop.rules(0, 2 | 1 << 10);
        due.is("without 0", NONE, shop.cheapest(0, 3, 0));
    }

    private static void amongThose() {
        due.term("all FORMULAS among those looked at;");
        proves(NONE, 2, "--p", "p");
        proves(NONE, 2, "q", "p|q", "-p");
        // What is asked next stands just within the forty, then just beyond them: s, s, f1, f2, f1, f0.
        proves(11 + 11 + 13 + 15 + 11, 2, withOthers(34, "g0", "r", "r&s>g0", "s"));
        proves(11 + 11 + 13 + 15 + 11, 2, withOthers(35, "g0", "r", "r&s>g0", "s"));
        proves(NONE, 2, withOthers(36, "g0", "r", "r&s>g0", "s"));
        proves(11 + 13 + 11, 2, withOthers(37, "g0", "s>g0", "s"));
        proves(NONE, 2, withOthers(38, "g0", "s>g0", "s"));
        proves(11 + 11 + 12 + 14 + 11, 2, withOthers(35, "g0", "f0", "all fx>g0", "f1"));
        proves(NONE, 2, withOthers(36, "g0", "f0", "all fx>g0", "f1"));
        proves(11 + 11 + 11 + 12 + 14 + 11, 3, withOthers(34, "g0", "f0", "f1", "all fx>g0", "f2"));
        proves(NONE, 3, withOthers(35, "g0", "f0", "f1", "all fx>g0", "f2"));
        proves(NONE, 3, withOthers(36, "g0", "f0", "f2", "all fx>g0", "f1"));
        proves(11 + 11 + 13 + 15 + 11, 2, withOthers(35, "g0", "r", "(f0>r)>g0"));
        proves(NONE, 2, withOthers(36, "g0", "r", "(f0>r)>g0"));
        // p&s would be needed, which is no part of any.
        proves(NONE, 2, "r", "p", "s", "q&q>r");
        proves(11 + 11 + 13 + 15 + 11, 2, "r", "p", "s", "p&s>r");
    }

    /** Each atom is proved from two of the one before it, so costs double; g1 then is put on twice by FIRST. */
    private static void tooDear() {
        due.term("a COST above 99999 counts as none.");
        String[] atoms = {"p", "q", "r", "s", "f0", "f1", "f2", "g0", "g1"};
        String[] texts = new String[10];
        texts[0] = "g1|g2|g2";
        texts[1] = "p";
        for (int i = 0; i < 8; i++) {
            texts[i + 2] = atoms[i] + "&" + atoms[i] + ">" + atoms[i + 1];
        }
        ProofShop shop = shop(3, texts);
        shop.price(0, SIGN, 9);
        shop.price(0, 2, 99);
        isDear(shop, 99998, 98, 6, 57);
        isDear(shop, 99999, 99, 4, 57);
        isDear(shop, 100000, 98, 6, 58);
        isDear(shop, 100001, 99, 4, 58);
        due.is("another house is cheaper", 1, shop.where(3, 0));
        due.is("none of its own", NONE, shop.forward(0, 3, 0));
    }

    private static void isDear(ProofShop shop, int want, int belief, int on, int first) {
        shop.price(0, 0, belief);
        shop.price(0, 7, on);
        shop.price(0, 5, first);
        int cost = belief + 9;
        for (int i = 0; i < 8; i++) {
            cost = 2 * cost + 99 + 27 + belief + 45 + on + 9;
        }
        due.is("the test's own sum", want, cost + first + 27 + first + 45);
        due.is("cheapest of " + want, want > 99999 ? NONE : want, shop.cheapest(0, 3, 0));
        due.is("lastly of " + want, want > 99999 ? NONE : 5, shop.lastly(0, 3, 0));
    }

    private static void none() {
        due.term("None, if there is no such proof.");
        proves(NONE, 2, "p");
        proves(NONE, 2, "p|-p");
        proves(NONE, 2, "p&q", "p");
        proves(NONE, 2, "all fx", "f0");
        proves(NONE, 3, "all fx", "f0", "f1");
        proves(11 + 12, 1, "all fx", "f0");
        proves(NONE, 2, "r", "p|q", "p>r");
    }

    private static void lastly() {
        due.promise(26, "LASTLY; NONE.");
        ProofShop shop = shop(2, "p", "q", "r");
        due.is("none", NONE, shop.lastly(0, 3, 0));
        due.is("a belief", 0, shop.lastly(0, 3, 2));
        due.is("nothing for another", NONE, shop.lastly(0, 0, 2));
        shop.rules(0, 0);
        due.is("without rules", NONE, shop.lastly(0, 3, 2));
        due.is("ABSURD", 14, shop(2, "q", "p", "-p").lastly(2, 3, 0));
        due.is("GIVEN", 10, shop(2, "q>q").lastly(1, 0, 0));
    }

    private static void lastlyLeast() {
        due.term("LASTLY: the least RULE by which the goal's LINE and the COSTS of its premises are just its COST.");
        ProofShop shop = shop(2, "p|p", "p");
        due.is("FIRST and LAST cost as much", 5, shop.lastly(0, 3, 0));
        shop.price(0, 6, 9);
        due.is("LAST is cheaper", 6, shop.lastly(0, 3, 0));
        ProofShop and = shop(2, "p", "p&p");
        due.is("LEFT and RIGHT", 3, and.lastly(0, 3, 0));
        and.price(0, 3, 11);
        due.is("RIGHT", 4, and.lastly(0, 3, 0));
        // p as a belief costs 11, by TWICE 13 and 11: with prices of 0 both are nothing.
        ProofShop zero = shop(2, "p", "--p", "p");
        zero.price(0, 0, 0);
        zero.price(0, 8, 0);
        zero.price(0, SIGN, 0);
        due.is("a belief is the least", 0, zero.lastly(0, 3, 0));
        zero.believe(3, 2, false);
        due.is("TWICE", 8, zero.lastly(0, 3, 0));
        // All for nothing: p&r is had from p, so that p by LEFT of it costs just as much as by ON.
        ProofShop round = shop(2, "p", "q", "q>p", "r", "p&r>s");
        due.is("by ON", 7, round.lastly(0, 3, 0));
        for (int rule = 0; rule <= SIGN; rule++) {
            round.price(0, rule, 0);
        }
        due.is("by LEFT", 3, round.lastly(0, 3, 0));
        // p may be assumed at the cost of its proof by LEFT, but not by itself.
        ProofShop same = shop(2, "p", "p&q", "p>r");
        same.price(0, 1, 23);
        due.is("by LEFT", 24, same.cheapest(0, 3, 0));
        due.is("it is LEFT", 3, same.lastly(0, 3, 0));
        // By ABSURD and by ON alike: 11 + 12 + 11 and 11 + 13 + 11 but for one.
        ProofShop absurd = shop(2, "q", "p", "-p", "p>q");
        due.is("ABSURD is cheaper", 14, absurd.lastly(0, 3, 0));
        absurd.price(0, 14, 11);
        due.is("of both the least", 7, absurd.lastly(0, 3, 0));
    }

    private static void where() {
        due.promise(27, "WHERE; NONE.");
        ProofShop shop = shop(2, "p", "q");
        due.is("none", NONE, shop.where(3, 0));
        due.is("a belief", 0, shop.where(3, 1));
        shop.rules(0, 0);
        shop.rules(1, 0);
        due.is("the last house alone", 2, shop.where(3, 1));
        shop.rules(2, 0);
        due.is("none has rules", NONE, shop.where(3, 1));
    }

    private static void whereLeast() {
        due.term("WHERE: the HOUSE by which the CHEAPEST proof is the cheapest, of several the least; none.");
        ProofShop shop = shop(2, "q", "q");
        due.is("of three", 0, shop.where(3, 0));
        shop.price(0, 0, 11);
        due.is("of two", 1, shop.where(3, 0));
        shop.price(2, 0, 9);
        due.is("the cheapest", 2, shop.where(3, 0));
        shop.price(0, 0, 9);
        due.is("of the first and the last", 0, shop.where(3, 0));
    }

    private static void resold() {
        due.promise(28, "RESOLD; NONE.");
        due.term("RESOLD by a HOUSE: what its LINE of RULE 15 costs and the least CHEAPEST proof of the other HOUSES together,");
        for (int house = 0; house < 3; house++) {
            int first = house == 0 ? 1 : 0;
            int second = 3 - house - first;
            ProofShop shop = shop(2, "q&q", "q&q");
            due.is("13 and 13", 26, shop.resold(house, 3, 0));
            shop.price(house, 0, 0);
            due.is("not its own", 26, shop.resold(house, 3, 0));
            shop.price(second, 0, 8);
            due.is("the least is the last", 24, shop.resold(house, 3, 0));
            shop.price(first, 0, 7);
            due.is("the least is the first", 23, shop.resold(house, 3, 0));
            shop.rules(first, 0);
            due.is("the first has none", 24, shop.resold(house, 3, 0));
            shop.price(house, 15, 0);
            shop.price(house, SIGN, 0);
            due.is("its line for nothing", 11, shop.resold(house, 3, 0));
            shop.rules(second, 0);
            due.is("none of the others", NONE, shop.resold(house, 3, 0));
        }
    }

    private static void resoldNone() {
        due.term("if it has that RULE; none.");
        ProofShop shop = shop(2, "q", "q");
        shop.rules(1, 65535 & ~32768);
        due.is("all rules but 15", NONE, shop.resold(1, 3, 0));
        shop.rules(1, 32768);
        due.is("15 alone", 22, shop.resold(1, 3, 0));
        due.is("nobody has a proof", NONE, shop.resold(1, 0, 0));
    }

    private static void forward() {
        due.promise(29, "FORWARD; NONE.");
        due.term("FORWARD: how much less the lesser of that and its own CHEAPEST proof is than its own (0 at least;");
        ProofShop shop = shop(2, "q", "q");
        shop.price(2, 0, 20);
        due.is("dearer by one: 22 and 21", 0, shop.forward(2, 3, 0));
        shop.price(2, 0, 21);
        due.is("as dear", 0, shop.forward(2, 3, 0));
        shop.price(2, 0, 22);
        due.is("cheaper by one", 1, shop.forward(2, 3, 0));
        shop.price(2, 0, 99);
        due.is("100 and 22", 78, shop.forward(2, 3, 0));
        shop.rules(2, 65535 & ~32768);
        due.is("without rule 15", 0, shop.forward(2, 3, 0));
        shop.rules(2, 65535);
        shop.rules(0, 0);
        shop.rules(1, 0);
        due.is("none of the others", 0, shop.forward(2, 3, 0));
    }

    private static void forwardNone() {
        due.term("none, if it has none of its own).");
        ProofShop shop = shop(2, "q", "q");
        shop.rules(0, 32768);
        due.is("it may buy", 22, shop.resold(0, 3, 0));
        due.is("but has none", NONE, shop.forward(0, 3, 0));
        due.is("nobody has", NONE, shop.forward(1, 0, 0));
    }
}
