/** Edges of lines, a test for each sentence: promises 15 to 22 and 43. */
public final class BoundaryLinesTest {
    private static final Due due = new Due();
    private static final int NONE = ProofShop.NONE;
    private static final int LEAST = Integer.MIN_VALUE;
    private static final int MOST = Integer.MAX_VALUE;
    private static final int BELIEF = 0;
    private static final int ASSUMED = 1;
    private static final int GIVEN = 10;
    private static final int BOUGHT = 15;

    public static void main(String[] args) {
        line();
        lineNeedNotBeHonest();
        noSuchInLine();
        premiseBehindNone();
        anotherByBelief();
        lineFull();
        look();
        lookOther();
        is();
        isOther();
        premisesByThemselves();
        sound();
        rests();
        restsOfGiven();
        open();
        stale();
        saved();
        wrong();
        needs();
        spent();
        falls();
        fallsOfOneNumber();
        chain();
        due.close("BoundaryLinesTest");
    }

    private static int assume(ProofShop shop, int formula) {
        return shop.line(0, formula, ASSUMED, NONE, NONE, NONE);
    }

    /** Forty lines of which each is bought from the one before. */
    private static ProofShop full() {
        ProofShop shop = Due.shop("p", "q");
        assume(shop, 0);
        for (int i = 1; i < 40; i++) {
            shop.line(i % 3, 0, BOUGHT, i - 1, NONE, NONE);
        }
        return shop;
    }

    private static void line() {
        due.promise(15, "A LINE with told premises (NONE: none); of RULE 0 the first is the CUSTOMER: its number.");
        due.term("LINES (at most 40, numbered from 0 on): a HOUSE, a FORMULA, a RULE, up to 3 premises: LINES with lesser numbers.");
        ProofShop shop = Due.fullOf(2, "p");
        due.is("of customer 3, and there is no line", 0, shop.line(2, 29, BELIEF, 3, NONE, NONE));
        due.is("none", 1, shop.line(0, 0, 15, NONE, NONE, NONE));
        due.is("one", 2, shop.line(0, 0, 15, 1, NONE, NONE));
        due.is("two", 3, shop.line(0, 0, 15, 2, 0, NONE));
        due.is("three", 4, shop.line(0, 0, 15, 3, 3, 3));
        for (int i = 5; i < 40; i++) {
            due.is("number", i, shop.line(i % 3, i % 30, i % 15 + 1, i - 1, 0, i - 1));
        }
    }

    private static void lineNeedNotBeHonest() {
        due.promise(15, "It need not be HONEST.");
        ProofShop shop = Due.shop("p", "q");
        shop.rules(0, 0);
        for (int rule = 1; rule <= 15; rule++) {
            due.is("by rule " + rule, rule - 1, shop.line(0, 1, rule, rule < 2 ? NONE : 0, NONE, NONE));
        }
        due.is("what nobody believes", 15, shop.line(0, 0, BELIEF, 0, NONE, NONE));
        due.is("all of them", 16, shop.count(5));
    }

    private static void noSuchInLine() {
        due.term("IndexOutOfBoundsException: there is no such FORMULA, HOUSE, RULE, CUSTOMER, LINE, RECEIPT.");
        ProofShop shop = Due.shop("p");
        assume(shop, 0);
        assume(shop, 0);
        due.refuses("house", Due.INDEX, n -> shop.line(n, 0, 1, NONE, NONE, NONE), -1, 3, LEAST, MOST);
        due.refuses("formula", Due.INDEX, n -> shop.line(0, n, 1, NONE, NONE, NONE), -1, 1, LEAST, MOST);
        due.refuses("rule", Due.INDEX, n -> shop.line(0, 0, n, NONE, NONE, NONE), -1, 16, LEAST, MOST);
        due.refuses("customer", Due.INDEX, n -> shop.line(0, 0, BELIEF, n, NONE, NONE), NONE, 4, LEAST, MOST);
        due.refuses("its own number", Due.INDEX, n -> shop.line(0, 0, 2, n, 0, NONE), 2);
        due.refuses("first premise", Due.INDEX, n -> shop.line(0, 0, 2, n, 0, 0), -2, 2, 40, LEAST, MOST);
        due.refuses("second premise", Due.INDEX, n -> shop.line(0, 0, 2, 0, n, 0), -2, 2, 40, LEAST, MOST);
        due.refuses("third premise", Due.INDEX, n -> shop.line(0, 0, 9, 0, 0, n), -2, 2, 40, LEAST, MOST);
        due.is("none came", 2, shop.count(2));
        due.is("the greatest that there is", 2, shop.line(0, 0, 9, 1, 1, 1));
    }

    private static void premiseBehindNone() {
        due.promise(15, "IllegalArgumentException: a premise behind a NONE,");
        ProofShop shop = Due.shop("p");
        assume(shop, 0);
        for (int rule = 1; rule <= 15; rule++) {
            int its = rule;
            due.fails("second alone by rule " + rule, Due.ARGUMENT, () -> shop.line(0, 0, its, NONE, 0, NONE));
            due.fails("third alone by rule " + rule, Due.ARGUMENT, () -> shop.line(0, 0, its, NONE, NONE, 0));
            due.fails("no first by rule " + rule, Due.ARGUMENT, () -> shop.line(0, 0, its, NONE, 0, 0));
            due.fails("no second by rule " + rule, Due.ARGUMENT, () -> shop.line(0, 0, its, 0, NONE, 0));
        }
        due.fails("and no such line", Due.INDEX, () -> shop.line(0, 0, 2, NONE, 1, NONE));
        due.is("none came", 1, shop.count(2));
    }

    private static void anotherByBelief() {
        due.promise(15, "or another one by RULE 0;");
        ProofShop shop = Due.shop("p");
        assume(shop, 0);
        due.fails("second", Due.ARGUMENT, () -> shop.line(0, 0, BELIEF, 0, 0, NONE));
        due.fails("third", Due.ARGUMENT, () -> shop.line(0, 0, BELIEF, 0, NONE, 0));
        due.fails("both", Due.ARGUMENT, () -> shop.line(0, 0, BELIEF, 3, 0, 0));
        due.fails("and no such customer", Due.INDEX, () -> shop.line(0, 0, BELIEF, 4, 0, 0));
        due.is("none came", 1, shop.count(2));
        due.is("without", 1, shop.line(0, 0, BELIEF, 3, NONE, NONE));
    }

    private static void lineFull() {
        due.promise(15, "UnsupportedOperationException: there are 40.");
        ProofShop shop = Due.shop("p");
        for (int i = 0; i < 39; i++) {
            assume(shop, 0);
        }
        shop.image();
        due.is("the 40th", 39, assume(shop, 0));
        due.fails("the 41st", Due.UNSUPPORTED, () -> assume(shop, 0));
        due.fails("a belief", Due.UNSUPPORTED, () -> shop.line(0, 0, BELIEF, 0, NONE, NONE));
        due.is("still 40", 40, shop.count(2));
        due.fails("a premise behind NONE first", Due.ARGUMENT, () -> shop.line(0, 0, 1, NONE, 39, NONE));
        due.fails("another by rule 0 first", Due.ARGUMENT, () -> shop.line(0, 0, 0, 0, 39, NONE));
        due.fails("no such line first", Due.INDEX, () -> shop.line(0, 0, 2, 40, NONE, NONE));
        shop.back();
        due.is("the 40th anew", 39, shop.line(2, 0, 15, 38, NONE, NONE));
        due.is("is another", 2, shop.look(39, 0));
    }

    private static void look() {
        due.promise(16, "Of a LINE what 0 HOUSE, 1 FORMULA, 2 RULE, 3 to 5 premises (NONE; of RULE 0 3 the CUSTOMER), 6 what it costs.");
        ProofShop shop = Due.fullOf(2, "p");
        shop.line(2, 29, BELIEF, 3, NONE, NONE);
        shop.line(0, 0, BOUGHT, NONE, NONE, NONE);
        shop.line(1, 1, 9, 1, 0, 1);
        int[][] want = {{2, 29, 0, 3, NONE, NONE, 11}, {0, 0, 15, NONE, NONE, NONE, 11}, {1, 1, 9, 1, 0, 1, 11}};
        for (int line = 0; line < want.length; line++) {
            for (int what = 0; what <= 6; what++) {
                due.is("look " + line + " " + what, want[line][what], shop.look(line, what));
            }
        }
        due.refuses("line", Due.INDEX, n -> shop.look(n, 0), -1, 3, 40, LEAST, MOST);
        due.is("the last of forty", 38, full().look(39, 3));
        due.refuses("line of forty", Due.INDEX, n -> full().look(n, 0), 40);
    }

    private static void lookOther() {
        due.promise(16, "NoSuchElementException: another what.");
        ProofShop shop = full();
        due.refuses("what", Due.NO_ELEMENT, n -> shop.look(0, n), -1, 7, LEAST, MOST);
        due.refuses("line, and another what", Due.INDEX, n -> shop.look(n, 7), -1, 40);
    }

    private static void is() {
        due.promise(17, "What 0 HONEST, 1 SOUND, 2 OPEN, 3 STALE, 4 SAVED.");
        ProofShop shop = full();
        boolean[] want = {true, true, true, false, false};
        for (int what = 0; what <= 4; what++) {
            due.is("line 0, what " + what, want[what], shop.is(0, what));
            due.is("line 39, what " + what, want[what], shop.is(39, what));
        }
        due.refuses("line", Due.INDEX, n -> Due.bit(shop.is(n, 0)), -1, 40, LEAST, MOST);
    }

    private static void isOther() {
        due.promise(17, "NoSuchElementException: another what.");
        ProofShop shop = full();
        due.refuses("what", Due.NO_ELEMENT, n -> Due.bit(shop.is(0, n)), -1, 5, LEAST, MOST);
        due.refuses("line, and another what", Due.INDEX, n -> Due.bit(shop.is(n, 5)), -1, 40);
    }

    private static void premisesByThemselves() {
        due.term("(Whether its premises are HONEST is looked at by themselves.)");
        ProofShop shop = Due.shop("p", "q", "p&q");
        shop.line(0, 2, 3, NONE, NONE, NONE);
        shop.line(0, 0, 3, 0, NONE, NONE);
        due.is("the premise", false, shop.is(0, 0));
        due.is("what stands on it", true, shop.is(1, 0));
        due.is("is not sound", false, shop.is(1, 1));
    }

    private static void sound() {
        due.term("SOUND: it is HONEST, and all its premises are SOUND.");
        ProofShop alone = Due.shop("p");
        due.is("honest, of no premise", true, alone.is(assume(alone, 0), 1));
        due.is("not honest, of no premise", false, alone.is(alone.line(0, 0, 3, NONE, NONE, NONE), 1));
        ProofShop three = Due.shop("p", "q", "p|q", "p>r", "q>r", "r");
        for (int house = 0; house < 3; house++) {
            three.line(house, 2 + house, ASSUMED, NONE, NONE, NONE);
        }
        three.line(0, 5, 9, 0, 1, 2);
        due.is("all three", true, three.is(3, 1));
        for (int house = 1; house < 3; house++) {
            three.rules(house, 0);
            due.is("but that of house " + house, false, three.is(3, 1));
            three.rules(house, 65535);
        }
        ProofShop chain = full();
        due.is("the last of forty", true, chain.is(39, 1));
        chain.rules(0, 65535 & ~2);
        due.is("the first of them is not honest", false, chain.is(39, 1));
        due.is("the last is", true, chain.is(39, 0));
    }

    private static void rests() {
        due.promise(19, "What a LINE RESTS on, as bits.");
        due.term("RESTS on: a BELIEF, or an ASSUMED one, on itself; any other on what its premises rest on,");
        ProofShop shop = Due.shop("p");
        shop.line(0, 0, BELIEF, 3, NONE, NONE);
        shop.line(0, 0, ASSUMED, NONE, NONE, NONE);
        shop.line(0, 0, ASSUMED, 0, 1, NONE);
        shop.line(0, 0, 9, 0, 1, 2);
        shop.line(0, 0, 2, NONE, NONE, NONE);
        long[] want = {1, 2, 4, 7, 0};
        for (int line = 0; line < want.length; line++) {
            due.is("line " + line, want[line], shop.rests(line));
        }
        for (int i = 5; i < 39; i++) {
            shop.line(0, 0, i % 2, i % 2 == 0 ? 0 : NONE, NONE, NONE);
            due.is("itself " + i, 1L << i, shop.rests(i));
        }
        shop.line(0, 0, 9, 31, 32, 38);
        due.is("bits above 31", 1L << 31 | 1L << 32 | 1L << 38, shop.rests(39));
        due.refuses("line", Due.INDEX, n -> shop.rests(n), -1, 40, LEAST, MOST);
    }

    private static void restsOfGiven() {
        due.term("but for GIVEN: without its first premise, if that is ASSUMED.");
        ProofShop shop = Due.shop("p", "p>p", "q");
        shop.line(0, 0, BELIEF, 0, NONE, NONE);
        shop.line(0, 0, ASSUMED, NONE, NONE, NONE);
        shop.line(0, 2, ASSUMED, NONE, NONE, NONE);
        shop.line(0, 1, 9, 1, 2, 0);
        shop.line(0, 1, GIVEN, 1, 3, NONE);
        shop.line(0, 1, GIVEN, 0, 3, NONE);
        shop.line(0, 1, GIVEN, 3, 1, NONE);
        shop.line(0, 1, GIVEN, 1, 1, NONE);
        shop.line(0, 1, GIVEN, 1, NONE, NONE);
        shop.line(0, 1, GIVEN, 1, 3, 1);
        shop.line(0, 1, GIVEN, 2, 1, NONE);
        shop.line(0, 1, GIVEN, NONE, NONE, NONE);
        shop.line(0, 1, 2, 1, 3, NONE);
        long[] want = {1, 2, 4, 7, 5, 7, 7, 0, 0, 5, 2, 0, 7};
        for (int line = 0; line < want.length; line++) {
            due.is("line " + line, want[line], shop.rests(line));
        }
    }

    private static void open() {
        due.term("OPEN: it rests on an ASSUMED one.");
        ProofShop shop = Due.shop("p", "p>p");
        shop.line(0, 0, BELIEF, 0, NONE, NONE);
        shop.line(0, 0, ASSUMED, NONE, NONE, NONE);
        shop.line(0, 0, 2, 0, 1, NONE);
        shop.line(0, 1, GIVEN, 1, 1, NONE);
        shop.line(0, 1, GIVEN, 1, 2, NONE);
        shop.line(0, 0, 2, NONE, NONE, NONE);
        boolean[] want = {false, true, true, false, false, false};
        for (int line = 0; line < want.length; line++) {
            due.is("line " + line, want[line], shop.is(line, 2));
        }
        for (int i = 6; i < 39; i++) {
            shop.line(0, 0, i == 38 ? ASSUMED : 2, NONE, NONE, NONE);
        }
        shop.line(0, 0, 2, 38, NONE, NONE);
        due.is("line 37", false, shop.is(37, 2));
        due.is("the last", true, shop.is(39, 2));
        ProofShop anew = Due.shop("p");
        anew.image();
        due.is("assumed", true, anew.is(assume(anew, 0), 2));
        anew.back();
        due.is("another of its number", false, anew.is(anew.line(0, 0, BELIEF, 0, NONE, NONE), 2));
    }

    private static void stale() {
        due.term("STALE: it rests on a BELIEF whose CUSTOMER does not believe it now.");
        ProofShop shop = Due.shop("p", "(p)", "p>p");
        shop.line(0, 0, BELIEF, 3, NONE, NONE);
        shop.line(0, 0, ASSUMED, NONE, NONE, NONE);
        shop.line(0, 0, 2, 1, 0, NONE);
        shop.line(0, 0, 2, 1, 1, NONE);
        due.is("never believed", true, shop.is(0, 3));
        due.is("on it", true, shop.is(2, 3));
        due.is("an assumed one", false, shop.is(1, 3));
        due.is("not on it", false, shop.is(3, 3));
        shop.believe(2, 0, true);
        due.is("another believes it", true, shop.is(2, 3));
        shop.believe(3, 1, true);
        due.is("he believes what is SAME", false, shop.is(2, 3));
        shop.rules(0, 0);
        due.is("not honest, but not stale", false, shop.is(0, 3));
        shop.believe(3, 1, false);
        due.is("now", true, shop.is(0, 3));
    }

    private static void saved() {
        due.term("SAVED: a STALE LINE, if some other LINE of a SAME FORMULA is SOUND, not OPEN, not STALE.");
        ProofShop shop = Due.shop("p", "(p)", "--p");
        shop.believe(1, 0, true);
        shop.believe(2, 2, true);
        shop.line(0, 0, BELIEF, 0, NONE, NONE);
        due.is("alone", false, shop.is(0, 4));
        shop.line(0, 1, ASSUMED, NONE, NONE, NONE);
        due.is("by an open one", false, shop.is(0, 4));
        shop.line(0, 1, BELIEF, 3, NONE, NONE);
        due.is("by a stale one", false, shop.is(0, 4));
        shop.line(0, 2, BELIEF, 2, NONE, NONE);
        due.is("by one of another formula", false, shop.is(0, 4));
        shop.line(0, 1, 3, 3, NONE, NONE);
        due.is("by one that is not honest", false, shop.is(0, 4));
        shop.line(0, 1, BOUGHT, 4, NONE, NONE);
        shop.line(1, 1, BOUGHT, 4, NONE, NONE);
        due.is("by one that is not sound", false, shop.is(0, 4));
        for (int i = 7; i < 39; i++) {
            assume(shop, 1);
        }
        shop.line(2, 1, BELIEF, 1, NONE, NONE);
        due.is("by the last line", true, shop.is(0, 4));
        due.is("the other stale one, too", true, shop.is(2, 4));
        due.is("that is itself not stale, so not saved", false, shop.is(39, 4));
        due.is("nor is the open one", false, shop.is(1, 4));
    }

    private static void wrong() {
        due.promise(18, "The first LINE that is not HONEST; NONE.");
        due.is("no line", NONE, Due.shop("p").wrong());
        ProofShop shop = full();
        due.is("all honest", NONE, shop.wrong());
        shop.rules(2, 65535 & ~(1 << 15));
        due.is("the first of several", 2, shop.wrong());
        shop.rules(0, 0);
        due.is("line 0", 0, shop.wrong());
        ProofShop last = Due.shop("p");
        for (int i = 0; i < 39; i++) {
            assume(last, 0);
        }
        last.line(0, 0, 2, NONE, NONE, NONE);
        due.is("the last", 39, last.wrong());
    }

    private static void needs() {
        due.promise(20, "NEEDS.");
        due.term("NEEDS: all LINES on which a LINE stands, it too, as bits (long).");
        ProofShop shop = full();
        for (int line = 0; line < 40; line++) {
            due.is("line " + line, (1L << line + 1) - 1, shop.needs(line));
        }
        due.refuses("line", Due.INDEX, n -> shop.needs(n), -1, 40, LEAST, MOST);
        ProofShop other = Due.shop("p", "p>p");
        other.line(0, 0, BELIEF, 3, NONE, NONE);
        for (int i = 1; i < 39; i++) {
            assume(other, 0);
        }
        other.line(0, 1, GIVEN, 38, 31, 32);
        due.is("a customer is no line", 1, other.needs(0));
        due.is("an assumed one, too", 1L << 39 | 1L << 38 | 1L << 31 | 1L << 32, other.needs(39));
    }

    private static void spent() {
        due.promise(21, "SPENT.");
        due.term("SPENT by a proof: their PRICES together.");
        ProofShop shop = Due.shop("-p" + "&p".repeat(19));
        for (int i = 0; i < 40; i++) {
            shop.line(i % 3, 0, 9, i == 0 ? NONE : i - 1, i == 0 ? NONE : i - 1, i == 0 ? NONE : 0);
        }
        for (int house = 0; house < 3; house++) {
            shop.price(house, 9, 99);
            shop.price(house, 16, 9);
        }
        due.is("one", 459, shop.spent(0));
        due.is("each once", 459 * 3, shop.spent(2));
        due.is("the most", 459 * 40, shop.spent(39));
        for (int house = 0; house < 3; house++) {
            shop.price(house, 9, 0);
            shop.price(house, 16, 0);
        }
        due.is("nothing", 0, shop.spent(39));
        due.refuses("line", Due.INDEX, n -> shop.spent(n), -1, 40, LEAST, MOST);
    }

    private static void falls() {
        due.promise(22, "LINES that would be STALE, and are not now,");
        ProofShop shop = Due.fullOf(2, "q", "p");
        due.is("no line", 0, shop.falls(0, 0));
        shop.believe(3, 29, true);
        shop.line(0, 29, BELIEF, 3, NONE, NONE);
        shop.line(0, 0, BELIEF, 3, NONE, NONE);
        shop.line(0, 0, 2, 0, 1, NONE);
        for (int i = 3; i < 39; i++) {
            assume(shop, 0);
        }
        shop.line(0, 0, 2, 38, 0, NONE);
        due.is("of the last formula: the last line, too", 1L | 1L << 39, shop.falls(3, 29));
        due.is("what he is not told", 0, shop.falls(3, 0));
        due.is("of another customer", 0, shop.falls(2, 29));
        due.is("nothing happened", 1 << 29, shop.beliefs(3));
        due.is("nothing is stale", false, shop.is(39, 3));
        shop.believe(3, 29, false);
        due.is("what is stale now", 0, shop.falls(3, 29));
        due.refuses("customer", Due.INDEX, n -> shop.falls(n, 0), -1, 4, LEAST, MOST);
        due.refuses("formula", Due.INDEX, n -> shop.falls(0, n), -1, 30, LEAST, MOST);
    }

    private static void fallsOfOneNumber() {
        due.promise(22, "if a CUSTOMER were not told to believe a FORMULA any more, as bits.");
        ProofShop shop = Due.shop("p", "(p)");
        shop.believe(0, 0, true);
        shop.believe(0, 1, true);
        shop.line(0, 0, BELIEF, 0, NONE, NONE);
        due.is("he is told what is SAME", 0, shop.falls(0, 0));
        due.is("of the other", 0, shop.falls(0, 1));
        shop.believe(0, 0, false);
        due.is("by the SAME one alone", 1, shop.falls(0, 1));
        due.is("what he is not told any more", 0, shop.falls(0, 0));
    }

    private static void chain() {
        due.promise(43, "CHAIN.");
        due.term("CHAIN of a LINE: through how many HOUSES it was BOUGHT, one behind another (BOUGHT of BOUGHT ..).");
        ProofShop shop = full();
        for (int line = 0; line < 40; line++) {
            due.is("line " + line, line, shop.chain(line));
        }
        ProofShop broken = Due.shop("p", "p&p");
        assume(broken, 0);
        broken.line(1, 0, BOUGHT, 0, NONE, NONE);
        broken.line(1, 1, 2, 1, 1, NONE);
        broken.line(2, 1, BOUGHT, 2, NONE, NONE);
        broken.line(0, 1, BOUGHT, 3, NONE, NONE);
        int[] want = {0, 1, 0, 1, 2};
        for (int line = 0; line < want.length; line++) {
            due.is("line " + line, want[line], broken.chain(line));
        }
        due.refuses("line", Due.INDEX, n -> shop.chain(n), -1, 40, LEAST, MOST);
    }
}
