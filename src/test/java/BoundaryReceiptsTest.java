/** Edges of receipts and refunds, a test for each sentence: promises 37 to 42. */
public final class BoundaryReceiptsTest {
    private static final Due due = new Due();
    private static final int NONE = ProofShop.NONE;
    private static final int LEAST = Integer.MIN_VALUE;
    private static final int MOST = Integer.MAX_VALUE;
    private static final int BELIEF = 0;
    private static final int ASSUMED = 1;
    private static final int BOUGHT = 15;

    public static void main(String[] args) {
        sell();
        sellNone();
        sellToItself();
        sellFull();
        undo();
        laws();
        lawOfHonest();
        lawOfSound();
        lawOfStale();
        lawOfOpen();
        lawOfTwice();
        lawOfTwiceVoid();
        refunds();
        refundsNone();
        owes();
        owesNotVoid();
        owesNone();
        gains();
        gainsOfBuyer();
        gainsNone();
        dearer();
        due.close("BoundaryReceiptsTest");
    }

    /** A line of each house: p is assumed. */
    private static ProofShop three() {
        ProofShop shop = Due.shop("p", "(p)", "q");
        for (int house = 0; house < 3; house++) {
            shop.line(house, 0, ASSUMED, NONE, NONE, NONE);
        }
        return shop;
    }

    private static void sell() {
        due.promise(38, "A RECEIPT: its number (buyer: 0 to 3 a CUSTOMER, 4 to 6 a HOUSE).");
        due.term("a LINE is sold to a CUSTOMER, or to a HOUSE, for COINS (0 to 9999) on a DAY (0 to 9999).");
        ProofShop shop = three();
        for (int buyer = 0; buyer <= 6; buyer++) {
            due.is("to " + buyer, buyer, shop.sell(buyer == 4 ? 1 : 0, buyer, buyer % 2 == 0 ? 0 : 9999, buyer % 3 == 0 ? 9999 : 0));
        }
        due.is("coins", 3 * 9999, shop.count(6));
        due.refuses("line", Due.INDEX, n -> shop.sell(n, 0, 0, 0), -1, 3, LEAST, MOST);
        due.is("none came", 7, shop.count(3));
        ProofShop full = Due.shop("p");
        for (int i = 0; i < 40; i++) {
            full.line(0, 0, ASSUMED, NONE, NONE, NONE);
        }
        due.is("the last of forty lines", 0, full.sell(39, 0, 0, 0));
        due.refuses("line of forty", Due.INDEX, n -> full.sell(n, 0, 0, 0), 40);
    }

    private static void sellNone() {
        due.promise(38, "IllegalArgumentException: buyer, COINS or DAY are none,");
        ProofShop shop = three();
        due.refuses("buyer", Due.ARGUMENT, n -> shop.sell(0, n, 0, 0), -1, 7, LEAST, MOST);
        due.refuses("coins", Due.ARGUMENT, n -> shop.sell(0, 0, n, 0), -1, 10000, LEAST, MOST);
        due.refuses("day", Due.ARGUMENT, n -> shop.sell(0, 0, 0, n), -1, 10000, LEAST, MOST);
        due.refuses("line, and all are none", Due.INDEX, n -> shop.sell(n, -1, -1, -1), -1, 3);
        due.is("none came", 0, shop.count(3));
        due.is("the next is 0", 0, shop.sell(0, 0, 0, 0));
    }

    private static void sellToItself() {
        due.promise(38, "or the HOUSE of the LINE itself;");
        ProofShop shop = three();
        int sold = 0;
        for (int line = 0; line < 3; line++) {
            for (int house = 0; house < 3; house++) {
                int its = line;
                int buyer = 4 + house;
                if (line == house) {
                    due.fails("house " + house + " to itself", Due.ARGUMENT, () -> shop.sell(its, buyer, 1, 1));
                } else {
                    due.is("to another", sold++, shop.sell(line, buyer, 1, 1));
                }
            }
            due.is("to the customer of its number", sold++, shop.sell(line, line, 1, 1));
        }
    }

    private static void sellFull() {
        due.promise(38, "UnsupportedOperationException: there are 30.");
        due.term("RECEIPTS (at most 30, numbered from 0 on):");
        ProofShop shop = three();
        for (int i = 0; i < 29; i++) {
            due.is("number", i, shop.sell(0, 0, 9999, 9999));
        }
        shop.image();
        due.is("the 30th", 29, shop.sell(0, 1, 9999, 0));
        due.fails("the 31st", Due.UNSUPPORTED, () -> shop.sell(0, 0, 0, 0));
        due.is("still 30", 30, shop.count(3));
        due.fails("no coins first", Due.ARGUMENT, () -> shop.sell(0, 0, 10000, 0));
        due.fails("itself first", Due.ARGUMENT, () -> shop.sell(0, 4, 0, 0));
        due.fails("no line first", Due.INDEX, () -> shop.sell(3, 0, 0, 0));
        shop.undo(0);
        due.fails("a VOID one counts, too", Due.UNSUPPORTED, () -> shop.sell(0, 0, 0, 0));
        shop.back();
        due.is("the 30th anew", 29, shop.sell(0, 2, 1, 0));
        due.is("coins", 29 * 9999 + 1, shop.count(6));
    }

    private static void undo() {
        due.promise(39, "A RECEIPT is VOID: whether it was not.");
        due.term("VOID: it was taken back by hand.");
        ProofShop shop = three();
        due.refuses("no receipt", Due.INDEX, n -> Due.bit(shop.undo(n)), 0, -1, LEAST, MOST);
        for (int i = 0; i < 30; i++) {
            shop.sell(0, 0, 1, i);
        }
        due.refuses("receipt", Due.INDEX, n -> Due.bit(shop.undo(n)), -1, 30, LEAST, MOST);
        due.is("none yet", 0, shop.count(4));
        for (int i = 29; i >= 0; i--) {
            due.is("undo", true, shop.undo(i));
            due.is("undo again", false, shop.undo(i));
            due.is("void ones", 30 - i, shop.count(4));
        }
        due.is("no coins", 0, shop.count(6));
        due.is("all receipts", 30, shop.count(3));
    }

    /** Lines: 0 is not honest, 1 not sound, 2 stale and 3 on it, 4 open, 5 and 6 are SAME: 6 was sold to 3 before 5. */
    private static void laws() {
        due.term("By the LAW of refund (bits):");
        ProofShop shop = Due.shop("p", "p|p", "q", "q|q", "r", "s", "(s)");
        shop.believe(0, 2, true);
        shop.believe(0, 5, true);
        shop.line(0, 0, 3, NONE, NONE, NONE);
        shop.line(0, 1, 5, 0, NONE, NONE);
        shop.line(0, 2, BELIEF, 0, NONE, NONE);
        shop.line(0, 3, 5, 2, NONE, NONE);
        shop.line(0, 4, ASSUMED, NONE, NONE, NONE);
        shop.line(0, 5, BELIEF, 0, NONE, NONE);
        shop.line(0, 6, BELIEF, 0, NONE, NONE);
        shop.believe(0, 2, false);
        for (int line = 0; line < 7; line++) {
            shop.sell(line, line < 4 ? line : 3, 1 << line, 7 - line);
        }
        int[] paid = {0b0000101, 0b0001111, 0b0001100, 0b0010000, 0b0100000};
        for (int law = 0; law <= 31; law++) {
            int want = 0;
            for (int bit = 0; bit < 5; bit++) {
                want |= (law >> bit & 1) != 0 ? paid[bit] : 0;
            }
            due.is("law " + law, want, shop.refunds(law));
            due.is("owed by law " + law, want, shop.owes(0, NONE, law));
            due.is("gained by law " + law, 127 - want, shop.gains(0, law));
        }
    }

    private static void lawOfHonest() {
        due.term("1 what is not HONEST;");
        ProofShop shop = Due.shop("p", "p|p");
        shop.line(0, 0, 3, NONE, NONE, NONE);
        shop.line(0, 1, 5, 0, NONE, NONE);
        shop.sell(0, 0, 1, 0);
        shop.sell(1, 0, 2, 0);
        due.is("not what is not SOUND alone", 1, shop.refunds(1));
        shop.rules(0, 0);
        due.is("as it is now", 3, shop.refunds(1));
    }

    private static void lawOfSound() {
        due.term("2 what is not SOUND;");
        ProofShop shop = Due.shop("p", "p|p", "q");
        shop.line(0, 0, 3, NONE, NONE, NONE);
        shop.line(0, 1, 5, 0, NONE, NONE);
        shop.line(0, 2, ASSUMED, NONE, NONE, NONE);
        for (int line = 0; line < 3; line++) {
            shop.sell(line, 0, 1, 0);
        }
        due.is("both", 3, shop.refunds(2));
    }

    private static void lawOfStale() {
        due.term("4 what is STALE and not SAVED;");
        ProofShop shop = Due.shop("p", "q");
        shop.believe(1, 0, true);
        shop.line(0, 0, BELIEF, 0, NONE, NONE);
        shop.sell(0, 0, 1, 0);
        due.is("stale", 1, shop.refunds(4));
        shop.line(1, 0, BELIEF, 1, NONE, NONE);
        shop.sell(1, 0, 1, 0);
        due.is("saved", 0, shop.refunds(4));
        shop.believe(1, 0, false);
        due.is("both stale", 3, shop.refunds(4));
        shop.believe(0, 0, true);
        due.is("the first saves the other", 0, shop.refunds(4));
    }

    private static void lawOfOpen() {
        due.term("8 what is OPEN;");
        ProofShop shop = Due.shop("p", "p>p");
        shop.line(0, 0, ASSUMED, NONE, NONE, NONE);
        shop.line(0, 1, 10, 0, 0, NONE);
        shop.line(1, 0, BOUGHT, 0, NONE, NONE);
        for (int line = 0; line < 3; line++) {
            shop.sell(line, line, 1, 0);
        }
        due.is("not what is discharged", 5, shop.refunds(8));
    }

    private static void lawOfTwice() {
        due.term("16 what was sold to the same one before");
        due.term("(a LINE of a SAME FORMULA, by a RECEIPT with a lesser DAY, or of one DAY a lesser number,");
        ProofShop shop = Due.shop("p", "(p)", "q");
        for (int i = 0; i < 3; i++) {
            shop.line(i, i, ASSUMED, NONE, NONE, NONE);
        }
        shop.sell(0, 0, 1, 9999);
        due.is("once", 0, shop.refunds(16));
        shop.sell(1, 0, 1, 9999);
        due.is("of one day the greater number", 2, shop.refunds(16));
        shop.sell(0, 0, 1, 9998);
        due.is("a lesser day, a greater number", 3, shop.refunds(16));
        shop.sell(0, 0, 1, 0);
        due.is("the least day", 7, shop.refunds(16));
        shop.sell(2, 0, 1, 0);
        due.is("another formula", 7, shop.refunds(16));
        shop.sell(0, 3, 1, 9999);
        due.is("to another", 7, shop.refunds(16));
        shop.sell(0, 6, 1, 1);
        shop.sell(1, 6, 1, 0);
        due.is("to a house", 7 | 64, shop.refunds(16));
        ProofShop many = three();
        for (int i = 0; i < 30; i++) {
            many.sell(i % 3, 3, 1, 5);
        }
        due.is("thirty of one day", (1 << 30) - 2, many.refunds(16));
    }

    private static void lawOfTwiceVoid() {
        due.term("that is not VOID): the HOUSE of the LINE pays the COINS back.");
        ProofShop shop = three();
        shop.sell(0, 0, 1, 0);
        shop.sell(1, 0, 20, 1);
        shop.sell(2, 0, 300, 2);
        due.is("two", 6, shop.refunds(16));
        due.is("house 0 pays", 0, shop.owes(0, NONE, 16));
        due.is("house 1 pays", 20, shop.owes(1, NONE, 16));
        due.is("house 2 pays", 300, shop.owes(2, NONE, 16));
        shop.undo(0);
        due.is("the first is void", 4, shop.refunds(16));
        shop.undo(1);
        due.is("the second, too", 0, shop.refunds(16));
        shop.undo(2);
        due.is("all", 0, shop.refunds(31));
    }

    private static void refunds() {
        due.promise(41, "RECEIPTS that are paid back by a LAW, as bits.");
        due.is("no receipt", 0, three().refunds(31));
        ProofShop shop = three();
        for (int i = 0; i < 30; i++) {
            shop.sell(0, i % 4, 0, i);
        }
        due.is("by no law", 0, shop.refunds(0));
        due.is("all thirty, though for nothing", (1 << 30) - 1, shop.refunds(8));
        due.is("by all laws", (1 << 30) - 1, shop.refunds(31));
        shop.undo(29);
        due.is("not a VOID one", (1 << 29) - 1, shop.refunds(31));
    }

    private static void refundsNone() {
        due.promise(41, "IllegalArgumentException: it is none.");
        ProofShop shop = three();
        due.refuses("law", Due.ARGUMENT, n -> shop.refunds(n), -1, 32, 63, LEAST, MOST);
        for (int law = 0; law <= 31; law++) {
            due.is("law " + law, 0, shop.refunds(law));
        }
    }

    private static void owes() {
        due.promise(40, "By a LAW (bits 0 to 4): what a HOUSE owes to a buyer (NONE: to all).");
        ProofShop shop = three();
        for (int buyer = 0; buyer <= 6; buyer++) {
            shop.sell(buyer == 6 ? 0 : 2, buyer, 1 << buyer, 0);
        }
        for (int buyer = 0; buyer <= 6; buyer++) {
            due.is("house 2 to " + buyer, buyer == 6 ? 0 : 1 << buyer, shop.owes(2, buyer, 8));
            due.is("house 0 to " + buyer, buyer == 6 ? 64 : 0, shop.owes(0, buyer, 8));
            due.is("by no law", 0, shop.owes(2, buyer, 0));
        }
        due.is("to all", 63, shop.owes(2, NONE, 8));
        due.is("house 1 to all", 0, shop.owes(1, NONE, 31));
        due.refuses("house", Due.INDEX, n -> shop.owes(n, 0, 0), -1, 3, LEAST, MOST);
        due.refuses("house, and no buyer, and no law", Due.INDEX, n -> shop.owes(n, 7, 32), -1, 3);
    }

    private static void owesNotVoid() {
        due.term("OWED: what a HOUSE pays back by all RECEIPTS that are not VOID; to whom.");
        ProofShop shop = three();
        for (int i = 0; i < 30; i++) {
            shop.sell(1, 3, 9999, i);
        }
        due.is("the most", 30 * 9999, shop.owes(1, 3, 8));
        due.is("all but the first", 29 * 9999, shop.owes(1, NONE, 16));
        shop.undo(0);
        due.is("one is void", 29 * 9999, shop.owes(1, NONE, 8));
        due.is("the next is the first", 28 * 9999, shop.owes(1, 3, 16));
    }

    private static void owesNone() {
        due.promise(40, "IllegalArgumentException: the LAW, or the buyer, is none.");
        ProofShop shop = three();
        due.refuses("law", Due.ARGUMENT, n -> shop.owes(0, 0, n), -1, 32, LEAST, MOST);
        due.refuses("law, to all", Due.ARGUMENT, n -> shop.owes(0, NONE, n), -1, 32);
        due.refuses("buyer", Due.ARGUMENT, n -> shop.owes(0, n, 0), -2, 7, LEAST, MOST);
        due.is("itself is a buyer", 0, shop.owes(0, 4, 31));
    }

    private static void gains() {
        due.promise(37, "What a HOUSE has from RECEIPTS that are not VOID, less what it pays back by a LAW;");
        ProofShop shop = three();
        due.is("nothing yet", 0, shop.gains(0, 31));
        for (int i = 0; i < 30; i++) {
            shop.sell(0, i % 4, 9999, 0);
        }
        due.is("the most", 30 * 9999, shop.gains(0, 0));
        due.is("all is paid back", 0, shop.gains(0, 8));
        due.is("sold twice", 4 * 9999, shop.gains(0, 16));
        shop.undo(29);
        due.is("a void one", 29 * 9999, shop.gains(0, 0));
        due.is("of another", 0, shop.gains(1, 0));
        due.refuses("house", Due.INDEX, n -> shop.gains(n, 0), -1, 3, LEAST, MOST);
        due.refuses("house, and no law", Due.INDEX, n -> shop.gains(n, 32), -1, 3);
    }

    private static void gainsOfBuyer() {
        due.promise(37, "less what it paid as a buyer by such, more what is paid back to it of that.");
        ProofShop shop = three();
        for (int i = 0; i < 30; i++) {
            shop.sell(0, 6, 9999, 0);
        }
        due.is("the least", -30 * 9999, shop.gains(2, 0));
        due.is("all but one came back", -9999, shop.gains(2, 16));
        due.is("from house 0", 9999, shop.gains(0, 16));
        due.is("all came back", 0, shop.gains(2, 8));
        shop.undo(0);
        due.is("not of a void one", -29 * 9999, shop.gains(2, 0));
        due.is("nor by a law", 0, shop.gains(2, 8));
    }

    private static void gainsNone() {
        due.promise(37, "IllegalArgumentException: the LAW is none.");
        ProofShop shop = three();
        due.refuses("law", Due.ARGUMENT, n -> shop.gains(0, n), -1, 32, LEAST, MOST);
        due.is("law 31", 0, shop.gains(0, 31));
    }

    private static void dearer() {
        due.promise(42, "DEARER, as bits (VOID ones, too).");
        due.term("DEARER: RECEIPTS of BOUGHT LINES that cost more than all LINES on which the LINE stands (each once, it too, by PRICES of their HOUSES) would.");
        due.is("no receipt", 0, three().dearer());
        ProofShop one = Due.shop("p");
        one.line(0, 0, BOUGHT, NONE, NONE, NONE);
        one.sell(0, 0, 12, 0);
        due.is("the first receipt", 1, one.dearer());
        ProofShop shop = Due.shop("p");
        shop.line(0, 0, ASSUMED, NONE, NONE, NONE);
        shop.line(1, 0, BOUGHT, 0, NONE, NONE);
        shop.line(2, 0, BOUGHT, 1, NONE, NONE);
        shop.line(2, 0, BOUGHT, NONE, NONE, NONE);
        shop.sell(0, 0, 9999, 0);
        shop.sell(2, 0, 32, 0);
        shop.sell(2, 0, 33, 0);
        shop.sell(2, 0, 34, 0);
        shop.sell(3, 0, 11, 0);
        shop.sell(3, 0, 12, 0);
        due.is("more than 33, more than 11", 0b101000, shop.dearer());
        shop.undo(3);
        due.is("VOID ones, too", 0b101000, shop.dearer());
        for (int house = 0; house < 3; house++) {
            shop.price(house, 16, 0);
            shop.price(house, BOUGHT, 0);
        }
        shop.price(0, ASSUMED, 0);
        shop.sell(2, 0, 0, 0);
        due.is("more than nothing", 0b111110, shop.dearer());
        for (int i = 7; i < 30; i++) {
            shop.sell(2, 0, i == 29 ? 1 : 0, 0);
        }
        due.is("the last receipt", 0b111110 | 1 << 29, shop.dearer());
    }
}
