/** Promises 37 to 42 and 44 to 46: receipts, refunds, the image and what is counted. */
public final class ReceiptsTest {
    private static final Due due = new Due();
    private static final int NONE = ProofShop.NONE;

    public static void main(String[] args) {
        sell();
        sellLimit();
        undo();
        laws();
        soldBefore();
        owes();
        gains();
        dearer();
        image();
        imageOfThings();
        count();
        due.close("ReceiptsTest");
    }

    private static void sell() {
        ProofShop shop = Due.shop("p");
        shop.line(1, 0, 1, NONE, NONE, NONE);
        due.is("to a customer", 0, shop.sell(0, 0, 0, 0));
        due.is("to customer 3", 1, shop.sell(0, 3, 9999, 9999));
        due.is("to house 0", 2, shop.sell(0, 4, 1, 1));
        due.is("to house 2", 3, shop.sell(0, 6, 1, 1));
        due.fails("to itself", Due.ARGUMENT, () -> shop.sell(0, 5, 1, 1));
        due.fails("buyer 7", Due.ARGUMENT, () -> shop.sell(0, 7, 1, 1));
        due.fails("buyer -1", Due.ARGUMENT, () -> shop.sell(0, -1, 1, 1));
        due.fails("coins -1", Due.ARGUMENT, () -> shop.sell(0, 0, -1, 1));
        due.fails("coins 10000", Due.ARGUMENT, () -> shop.sell(0, 0, 10000, 1));
        due.fails("day -1", Due.ARGUMENT, () -> shop.sell(0, 0, 1, -1));
        due.fails("day 10000", Due.ARGUMENT, () -> shop.sell(0, 0, 1, 10000));
        due.fails("line 1", Due.INDEX, () -> shop.sell(1, -1, -1, -1));
        due.fails("line -1", Due.INDEX, () -> shop.sell(-1, 0, 1, 1));
        due.is("receipts", 4, shop.count(3));
        due.is("coins", 10001, shop.count(6));
    }

    private static void sellLimit() {
        ProofShop shop = Due.shop("p");
        shop.line(0, 0, 1, NONE, NONE, NONE);
        for (int i = 0; i < 30; i++) {
            due.is("receipt " + i, i, shop.sell(0, i % 4, 9999, i));
        }
        due.fails("receipt 30", Due.UNSUPPORTED, () -> shop.sell(0, 0, 1, 1));
        due.fails("no buyer first", Due.ARGUMENT, () -> shop.sell(0, 4, 1, 1));
        due.fails("no line first", Due.INDEX, () -> shop.sell(1, 4, 1, 1));
        due.is("undo frees none", true, shop.undo(29));
        due.fails("still 30", Due.UNSUPPORTED, () -> shop.sell(0, 0, 1, 1));
        due.is("coins", 29 * 9999, shop.count(6));
        due.is("refunds", (1 << 29) - 1, shop.refunds(8));
        due.is("owed", 29 * 9999, shop.owes(0, NONE, 8));
    }

    private static void undo() {
        ProofShop shop = Due.shop("p");
        shop.line(0, 0, 1, NONE, NONE, NONE);
        shop.sell(0, 0, 5, 1);
        shop.sell(0, 1, 7, 1);
        due.is("undo", true, shop.undo(0));
        due.is("again", false, shop.undo(0));
        due.is("void", 1, shop.count(4));
        due.is("receipts", 2, shop.count(3));
        due.is("coins", 7, shop.count(6));
        due.is("void ones are not paid back", 2, shop.refunds(8));
        due.is("nor owed", 7, shop.owes(0, NONE, 8));
        due.is("nor had", 7, shop.gains(0, 0));
        due.fails("undo 2", Due.INDEX, () -> shop.undo(2) ? 1 : 0);
        due.fails("undo -1", Due.INDEX, () -> shop.undo(-1) ? 1 : 0);
    }

    /** Lines: 0 honest; 1 not honest; 2 not sound; 3 open; 4 stale; 5 stale, but saved by 0. */
    private static ProofShop laws(int receipts) {
        ProofShop shop = Due.shop("p", "q", "p|q", "r", "s", "s&r");
        shop.believe(0, 0, true);
        shop.believe(1, 0, true);
        shop.believe(0, 4, true);
        shop.believe(0, 5, true);
        shop.line(0, 0, 0, 0, NONE, NONE);
        shop.line(0, 1, 3, 0, NONE, NONE);
        shop.line(0, 2, 6, 1, NONE, NONE);
        shop.line(0, 3, 1, NONE, NONE, NONE);
        shop.line(0, 4, 0, 0, NONE, NONE);
        shop.line(0, 0, 0, 1, NONE, NONE);
        shop.believe(0, 4, false);
        shop.believe(1, 0, false);
        for (int i = 0; i < receipts; i++) {
            shop.sell(i, i % 3, 1 << i, 3);
        }
        return shop;
    }

    private static void laws() {
        ProofShop shop = laws(6);
        int[] want = {0b110010, 0b110110, 0b010000, 0b001000, 0};
        for (int law = 0; law < 32; law++) {
            int bits = 0;
            for (int i = 0; i < 5; i++) {
                bits |= (law >> i & 1) != 0 ? want[i] : 0;
            }
            due.is("law " + law, bits, shop.refunds(law));
            due.is("owed by law " + law, bits, shop.owes(0, NONE, law));
            due.is("to customer 1 by law " + law, bits & 0b010010, shop.owes(0, 1, law));
            due.is("gains by law " + law, 63 - bits, shop.gains(0, law));
        }
        shop.believe(0, 4, true);
        due.is("believed again", 0, shop.refunds(4));
        due.fails("law 32", Due.ARGUMENT, () -> shop.refunds(32));
        due.fails("law -1", Due.ARGUMENT, () -> shop.refunds(-1));
    }

    private static void soldBefore() {
        ProofShop shop = Due.shop("p", "(p)", "q");
        shop.line(0, 0, 1, NONE, NONE, NONE);
        shop.line(1, 1, 1, NONE, NONE, NONE);
        shop.line(0, 2, 1, NONE, NONE, NONE);
        shop.sell(0, 0, 1, 5);
        due.is("once", 0, shop.refunds(16));
        shop.sell(1, 0, 2, 5);
        due.is("a SAME formula, of one day a lesser number", 2, shop.refunds(16));
        shop.sell(0, 0, 4, 4);
        due.is("a lesser day", 3, shop.refunds(16));
        shop.sell(0, 1, 8, 9);
        due.is("to another", 3, shop.refunds(16));
        shop.sell(2, 0, 16, 9);
        due.is("another formula", 3, shop.refunds(16));
        due.is("the house of the line pays", 1, shop.owes(0, NONE, 16));
        due.is("and that of the other", 2, shop.owes(1, 0, 16));
        shop.undo(2);
        due.is("a void one does not count", 2, shop.refunds(16));
        shop.undo(0);
        due.is("nor that", 0, shop.refunds(16));
        shop.sell(0, 6, 32, 1);
        shop.sell(1, 6, 64, 1);
        due.is("to a house", 64, shop.refunds(16));
    }

    private static void owes() {
        ProofShop shop = Due.shop("p");
        shop.line(0, 0, 1, NONE, NONE, NONE);
        shop.line(1, 0, 15, 0, NONE, NONE);
        shop.sell(0, 5, 10, 1);
        shop.sell(1, 2, 30, 1);
        shop.sell(0, 2, 5, 1);
        due.is("to all", 15, shop.owes(0, NONE, 8));
        due.is("to house 1", 10, shop.owes(0, 5, 8));
        due.is("to customer 2", 5, shop.owes(0, 2, 8));
        due.is("house 1 to customer 2", 30, shop.owes(1, 2, 8));
        due.is("to itself", 0, shop.owes(0, 4, 8));
        due.is("to nobody", 0, shop.owes(2, NONE, 31));
        due.is("by no law", 0, shop.owes(0, NONE, 0));
        due.fails("house 3", Due.INDEX, () -> shop.owes(3, 9, 99));
        due.fails("house -1", Due.INDEX, () -> shop.owes(-1, 0, 0));
        due.fails("buyer 7", Due.ARGUMENT, () -> shop.owes(0, 7, 0));
        due.fails("buyer -2", Due.ARGUMENT, () -> shop.owes(0, -2, 0));
        due.fails("law 32", Due.ARGUMENT, () -> shop.owes(0, 0, 32));
        due.fails("law -1", Due.ARGUMENT, () -> shop.owes(0, NONE, -1));
    }

    private static void gains() {
        ProofShop shop = Due.shop("p");
        shop.believe(0, 0, true);
        shop.line(0, 0, 0, 0, NONE, NONE);
        shop.line(1, 0, 15, 0, NONE, NONE);
        shop.sell(0, 5, 10, 1);
        shop.sell(1, 2, 30, 1);
        shop.sell(0, 5, 6, 2);
        shop.sell(1, 4, 3, 2);
        shop.sell(1, 4, 500, 2);
        shop.undo(4);
        due.is("house 0", 10 + 6 - 3, shop.gains(0, 0));
        due.is("house 1", 30 + 3 - 10 - 6, shop.gains(1, 0));
        due.is("house 2", 0, shop.gains(2, 0));
        due.is("sold twice: 6 come back from 0", 10 - 3, shop.gains(0, 16));
        due.is("and to 1", 30 + 3 - 10, shop.gains(1, 16));
        shop.believe(0, 0, false);
        due.is("all come back", 0, shop.gains(0, 2));
        due.is("from 1, too", 0, shop.gains(1, 2));
        due.is("what is not honest alone", -3, shop.gains(0, 1));
        due.is("that of house 1 is", 33, shop.gains(1, 1));
        due.fails("house 3", Due.INDEX, () -> shop.gains(3, 99));
        due.fails("law 32", Due.ARGUMENT, () -> shop.gains(0, 32));
        due.fails("law -1", Due.ARGUMENT, () -> shop.gains(0, -1));
    }

    private static void dearer() {
        ProofShop shop = Due.shop("p");
        shop.line(0, 0, 1, NONE, NONE, NONE);
        shop.line(1, 0, 15, 0, NONE, NONE);
        shop.sell(0, 0, 9999, 1);
        shop.sell(1, 0, 22, 1);
        shop.sell(1, 0, 23, 1);
        shop.sell(1, 6, 24, 1);
        due.is("more than 22", 0b1100, shop.dearer());
        shop.undo(2);
        due.is("void ones, too", 0b1100, shop.dearer());
        shop.price(0, 1, 11);
        due.is("by prices of the houses", 0b1000, shop.dearer());
        shop.price(1, 16, 0);
        due.is("and of the other", 0b1100, shop.dearer());
    }

    private static void image() {
        ProofShop shop = Due.shop("p", "all fx");
        due.is("none was kept", false, shop.back());
        shop.believe(0, 0, true);
        shop.line(0, 0, 0, 0, NONE, NONE);
        shop.sell(0, 0, 10, 1);
        shop.rules(1, 7);
        shop.price(2, 16, 4);
        shop.image();
        Due.tell(shop, "q");
        Due.tell(shop, "all fx & f0");
        shop.believe(0, 0, false);
        shop.believe(3, 1, true);
        shop.line(1, 2, 1, NONE, NONE, NONE);
        shop.sell(0, 1, 20, 1);
        shop.undo(0);
        shop.rules(1, 8);
        shop.price(2, 16, 5);
        shop.feed('p' << 24, 0, 0, 0, 0);
        shop.end(1);
        due.is("back", true, shop.back());
        int[] want = {2, 2, 1, 1, 0, 0, 10};
        for (int what = 0; what < 7; what++) {
            due.is("count " + what, want[what], shop.count(what));
        }
        due.is("beliefs", 1, shop.beliefs(0));
        due.is("beliefs of another", 0, shop.beliefs(3));
        due.is("rules", 7, shop.rules(1, 9));
        due.is("price", 4, shop.price(2, 16, 6));
        due.fails("no formula 2", Due.INDEX, () -> shop.signs(2));
        due.fails("no line 1", Due.INDEX, () -> shop.rests(1));
        due.is("the tape stays", 2, shop.formula());
        due.is("what is told", true, shop.same(0, 2));
        due.is("new ones behind it", 3, Due.tell(shop, "some gx & q"));
        due.is("worlds of it", 96, shop.worlds(3));
        due.is("worlds of all fx", 64, shop.worlds(1));
        Due.tape(shop, "p&");
        due.fails("a wrong text", Due.ARGUMENT, () -> shop.formula());
        due.is("back again", true, shop.back());
        due.is("fault stays", 2, shop.fault());
        due.is("rules again", 7, shop.rules(1, 7));
        due.is("formulas again", 2, shop.count(1));
        due.is("q anew", 2, Due.tell(shop, "all fx"));
        due.is("is SAME", true, shop.same(1, 2));
        shop.image();
        shop.back();
        due.is("the later image", 3, shop.count(1));
    }

    private static void imageOfThings() {
        ProofShop shop = new ProofShop();
        shop.things(3);
        shop.image();
        shop.things(1);
        Due.tell(shop, "all fx");
        due.is("of one thing", 32, shop.worlds(0));
        due.is("back", true, shop.back());
        due.is("D", 3, shop.count(0));
        Due.tell(shop, "all fx");
        due.is("of three things", 128, shop.worlds(0));
        shop.back();
        shop.things(2);
        Due.tell(shop, "all fx");
        due.is("of two things", 64, shop.worlds(0));
    }

    private static void count() {
        ProofShop shop = Due.shopOf(3, "p", "q");
        shop.line(0, 0, 1, NONE, NONE, NONE);
        shop.line(0, 0, 0, 0, NONE, NONE);
        shop.line(0, 0, 3, 1, NONE, NONE);
        shop.sell(0, 0, 9, 1);
        shop.sell(0, 0, 5, 1);
        shop.undo(1);
        int[] want = {3, 2, 3, 2, 1, 2, 9};
        for (int what = 0; what < 7; what++) {
            due.is("count " + what, want[what], shop.count(what));
        }
        due.is("count 7", NONE, shop.count(7));
        due.is("count -1", NONE, shop.count(-1));
        due.is("count least", NONE, shop.count(Integer.MIN_VALUE));
    }
}
