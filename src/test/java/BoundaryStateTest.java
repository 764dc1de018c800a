import java.util.function.Consumer;

/** Edges of the image, of counting and of refused calls, a test for each sentence: promises 44 to 46 and all that throw. */
public final class BoundaryStateTest {
    private static final Due due = new Due();
    private static final int NONE = ProofShop.NONE;
    private static final int LEAST = Integer.MIN_VALUE;
    private static final int MOST = Integer.MAX_VALUE;

    public static void main(String[] args) {
        image();
        imageOfAll();
        oneImage();
        toldAnew();
        manyToldAgain();
        tapeAndFaultStay();
        back();
        backNone();
        count();
        countFull();
        countOther();
        toldFirst();
        toldFirstOfFull();
        changesNothing();
        changesNothingInFull();
        changesTheTape();
        manyCalls();
        due.close("BoundaryStateTest");
    }

    /** Something of all: three houses, four customers, lines, receipts, two bytes on the tape, and an image of less. */
    private static ProofShop shop() {
        ProofShop shop = Due.shop("p", "q", "p&q", "(p)");
        shop.believe(0, 0, true);
        shop.believe(3, 1, true);
        shop.line(0, 0, 0, 0, NONE, NONE);
        shop.line(1, 1, 0, 3, NONE, NONE);
        shop.line(2, 2, 2, 0, 1, NONE);
        shop.line(0, 3, 15, 2, NONE, NONE);
        shop.sell(2, 0, 50, 3);
        shop.sell(2, 5, 20, 3);
        shop.sell(3, 0, 7, 1);
        shop.rules(1, 65535 & ~4);
        shop.price(2, 2, 42);
        shop.price(0, 16, 3);
        shop.image();
        shop.undo(1);
        shop.believe(1, 2, true);
        shop.rules(2, 65535 & ~8);
        shop.price(1, 9, 77);
        Due.tell(shop, "all(fx>gx)");
        shop.line(1, 4, 1, NONE, NONE, NONE);
        shop.sell(4, 2, 9, 9);
        Due.tape(shop, "t");
        due.fails("a wrong text", Due.ARGUMENT, () -> shop.formula());
        Due.tape(shop, "-q");
        return shop;
    }

    private static ProofShop full() {
        ProofShop shop = Due.fullOf(3, "p", "all(fx>gx)");
        for (int i = 0; i < 40; i++) {
            shop.line(i % 3, i % 2, 1, NONE, NONE, NONE);
        }
        for (int i = 0; i < 30; i++) {
            shop.sell(i, i % 4, 9999, 0);
        }
        Due.tape(shop, "-q");
        return shop;
    }

    /** All that can be asked of a shop but for tape and fault, in fewer than 250 calls; prices and rules are set anew. */
    private static String all(ProofShop shop) {
        StringBuilder all = new StringBuilder(some(shop));
        for (int house = 0; house < 3; house++) {
            int rules = shop.rules(house, 65535);
            shop.rules(house, rules);
            all.append(" rules ").append(rules);
            for (int rule = 0; rule <= 16; rule++) {
                all.append(' ').append(shop.price(house, rule, 0));
            }
        }
        if (shop.back()) {
            all.append(" back: ").append(some(shop));
        }
        return all.toString();
    }

    private static String some(ProofShop shop) {
        StringBuilder all = new StringBuilder("counts");
        for (int what = 0; what <= 6; what++) {
            all.append(' ').append(shop.count(what));
        }
        for (int customer = 0; customer < 4; customer++) {
            all.append(" believes ").append(shop.beliefs(customer));
        }
        for (int formula = 0; formula < Math.min(5, shop.count(1)); formula++) {
            all.append(" signs ").append(shop.signs(formula)).append(" alike ").append(shop.alike(formula));
        }
        for (int line = Math.max(0, shop.count(2) - 5); line < shop.count(2); line++) {
            for (int what = 0; what <= 6; what++) {
                all.append(' ').append(shop.look(line, what));
            }
            all.append(" stands on ").append(shop.needs(line)).append(' ').append(shop.is(line, 1));
        }
        for (int law = 0; law <= 31; law = 2 * law + 1) {
            all.append(" back ").append(shop.refunds(law)).append(" gains ").append(shop.gains(0, law));
        }
        return all.append(" dearer ").append(shop.dearer()).toString();
    }

    /** What is on the tape, by its length and by what is read there, and the fault ahead of that. */
    private static String tape(ProofShop shop) {
        int fault = shop.fault();
        int size = shop.feed(0x20202020, 0x20202020, 0x20202020, 0x20202020, 0x20202020) - 20;
        String read = "wrong";
        try {
            read = shop.signs(shop.formula()) + " signs";
        } catch (IllegalArgumentException e) {
            read += " at " + shop.fault();
        } catch (UnsupportedOperationException e) {
            read = "right, but there are 30";
        }
        return size + " bytes, " + read + ", fault " + fault;
    }

    private static void isAlike(String what, String want, String got) {
        due.is(what, true, want.equals(got));
        if (!want.equals(got)) {
            System.out.println("  want " + want + "\n  got  " + got);
        }
    }

    private static void image() {
        due.promise(44, "THE IMAGE is kept.");
        ProofShop shop = shop();
        shop.image();
        isAlike("nothing else happens", all(shopWithImageOfItself()), all(shop));
        ProofShop empty = new ProofShop();
        empty.image();
        Due.tell(empty, "p");
        due.is("back to nothing", true, empty.back());
        due.is("no formula", 0, empty.count(1));
        empty.things(1);
        due.is("so things may be set", 1, empty.count(0));
        ProofShop full = full();
        full.image();
        full.undo(29);
        due.is("back to all that there may be", true, full.back());
        due.is("formulas", 30, full.count(1));
        due.is("lines", 40, full.count(2));
        due.is("receipts", 30, full.count(3));
        due.is("void ones", 0, full.count(4));
        due.fails("no more", Due.UNSUPPORTED, () -> full.formula());
    }

    private static ProofShop shopWithImageOfItself() {
        ProofShop shop = shop();
        shop.image();
        return shop;
    }

    private static void imageOfAll() {
        due.term("THE IMAGE (one) of all may be kept, and gone back to");
        ProofShop shop = shop();
        shop.image();
        Due.tape(shop, " ");
        due.fails("a wrong text", Due.ARGUMENT, () -> shop.formula());
        Due.tell(shop, "some gx");
        for (int customer = 0; customer < 4; customer++) {
            shop.believe(customer, 0, customer != 0);
            shop.believe(customer, 5, true);
        }
        shop.line(0, 5, 1, NONE, NONE, NONE);
        shop.sell(5, 1, 1, 1);
        shop.undo(0);
        for (int house = 0; house < 3; house++) {
            shop.rules(house, house);
            for (int rule = 0; rule <= 16; rule++) {
                shop.price(house, rule, rule % 10);
            }
        }
        due.is("back", true, shop.back());
        isAlike("all is as it was", all(shopWithImageOfItself()), all(shop));
        ProofShop things = new ProofShop();
        things.things(3);
        things.image();
        things.things(1);
        things.back();
        due.is("D, too", 3, things.count(0));
    }

    private static void oneImage() {
        due.term("THE IMAGE (one) of all may be kept, and gone back to");
        ProofShop shop = new ProofShop();
        shop.image();
        Due.tell(shop, "p");
        shop.image();
        Due.tell(shop, "q");
        due.is("back", true, shop.back());
        due.is("to the latest", 1, shop.count(1));
        due.is("back again", true, shop.back());
        due.is("not to one before", 1, shop.count(1));
    }

    /** What was told behind the image is gone with its parts: others take its numbers, and it may be told anew. */
    private static void toldAnew() {
        due.term("THE IMAGE (one) of all may be kept, and gone back to");
        String[] texts = {"p&q", "q|p", "-(p&q)", "all(fx>gx)", "some(fx&p)", "q>p>q", "all -fx", "f0&g1|f1", "--q", "some gx"};
        for (String gone : texts) {
            for (String next : texts) {
                ProofShop shop = Due.shop("p", "r");
                shop.image();
                Due.tell(shop, gone);
                shop.back();
                Due.tell(shop, next);
                Due.tell(shop, gone);
                Due.tell(shop, "(" + next + ")");
                ProofShop fresh = Due.shop("p", "r", next, gone, next);
                String what = gone + " gone, then " + next;
                due.is("SAME: " + what, true, shop.same(2, 4));
                due.is("the other: " + what, gone.equals(next), shop.same(2, 3));
                for (int formula = 0; formula < 5; formula++) {
                    due.is("signs: " + what, fresh.signs(formula), shop.signs(formula));
                    due.is("worlds: " + what, fresh.worlds(formula), shop.worlds(formula));
                    due.is("alike: " + what, fresh.alike(formula), shop.alike(formula));
                }
            }
        }
    }

    private static String long40(int number) {
        StringBuilder text = new StringBuilder(number % 2 == 0 ? "all(" : "some(");
        for (int bit = 0; bit < 5; bit++) {
            text.append((number >> bit & 1) == 0 ? "p&" : "q|");
        }
        return text.append("fx&gx|".repeat(7)).append("fx)").toString();
    }

    /** Of many long formulas those that were kept are SAME as what is told again, whatever was told and gone between. */
    private static void manyToldAgain() {
        due.term("THE IMAGE (one) of all may be kept, and gone back to");
        ProofShop shop = Due.shopOf(3);
        for (int i = 0; i < 14; i++) {
            Due.tell(shop, long40(i));
        }
        shop.image();
        for (int i = 14; i < 30; i++) {
            Due.tell(shop, long40(i));
        }
        due.is("back", true, shop.back());
        for (int i = 0; i < 14; i++) {
            due.is("told again", 14 + i, Due.tell(shop, long40(i)));
        }
        due.is("two of those that were gone", 28, Due.tell(shop, long40(28)));
        due.is("two of those that were gone", 29, Due.tell(shop, "(" + long40(28) + ")"));
        for (int i = 0; i < 14; i++) {
            due.is("SAME as kept " + i, true, shop.same(i, 14 + i));
            due.is("not as another " + i, false, shop.same(i, 14 + (i + 1) % 14));
            due.is("nor as one that was gone " + i, false, shop.same(i, 28));
        }
        due.is("SAME among those", true, shop.same(28, 29));
    }

    private static void tapeAndFaultStay() {
        due.term("(but for the TAPE, fault() and THE IMAGE itself).");
        ProofShop shop = new ProofShop();
        shop.image();
        Due.tape(shop, "p&&");
        due.fails("p&&", Due.ARGUMENT, () -> shop.formula());
        Due.tape(shop, "q>q");
        shop.back();
        due.is("fault", 2, shop.fault());
        due.is("the tape", 23, shop.feed(0, 0, 0, 0, 0));
        shop.end(3);
        due.is("its text", 0, shop.formula());
        due.is("signs", 3, shop.signs(0));
        shop.back();
        due.is("the tape stays used up", 20, shop.feed(0, 0, 0, 0, 0));
        due.is("no fault any more", NONE, shop.fault());
        due.is("the image is still there", true, shop.back());
    }

    private static void back() {
        due.promise(45, "One goes back to THE IMAGE: true;");
        ProofShop shop = Due.shop("p");
        shop.image();
        for (int i = 0; i < 5; i++) {
            Due.tell(shop, "q&" + "-".repeat(i) + "p");
            due.is("back", true, shop.back());
            due.is("one formula", 1, shop.count(1));
        }
        due.is("without a change", true, shop.back());
    }

    private static void backNone() {
        due.promise(45, "false, and nothing happens, if none was kept.");
        due.is("of a new object", false, new ProofShop().back());
        ProofShop shop = full();
        due.is("of a full one", false, shop.back());
        due.is("again", false, shop.back());
        isAlike("nothing happens", all(full()), all(shop));
        isAlike("nor to the tape", tape(full()), tape(shop));
        due.is("formulas", 30, shop.count(1));
    }

    private static void count() {
        due.promise(46, "0 D, 1 FORMULAS, 2 LINES, 3 RECEIPTS, 4 VOID ones, 5 LINES that are not HONEST, 6 COINS of all RECEIPTS that are not VOID.");
        int[] atFirst = {2, 0, 0, 0, 0, 0, 0};
        ProofShop empty = new ProofShop();
        // Line 3 is bought of a line that says something else; receipt 1 of 20 coins is void.
        int[] then = {2, 5, 5, 4, 1, 1, 66};
        ProofShop shop = shop();
        for (int what = 0; what <= 6; what++) {
            due.is("at first " + what, atFirst[what], empty.count(what));
            due.is("then " + what, then[what], shop.count(what));
        }
    }

    private static void countFull() {
        due.promise(46, "0 D, 1 FORMULAS, 2 LINES, 3 RECEIPTS, 4 VOID ones, 5 LINES that are not HONEST,");
        ProofShop shop = full();
        int[] want = {3, 30, 40, 30, 0, 0, 30 * 9999};
        for (int what = 0; what <= 6; what++) {
            due.is("full " + what, want[what], shop.count(what));
        }
        for (int house = 0; house < 3; house++) {
            shop.rules(house, 0);
        }
        for (int receipt = 0; receipt < 30; receipt++) {
            shop.undo(receipt);
        }
        int[] then = {3, 30, 40, 30, 30, 40, 0};
        for (int what = 0; what <= 6; what++) {
            due.is("then " + what, then[what], shop.count(what));
        }
        ProofShop one = Due.shopOf(1);
        due.is("one thing", 1, one.count(0));
    }

    private static void countOther() {
        due.promise(46, "NONE for another what.");
        for (int what : new int[] {-1, 7, 8, LEAST, MOST}) {
            due.is("what " + what, NONE, new ProofShop().count(what));
            due.is("what " + what + " of many", NONE, shop().count(what));
        }
    }

    private static long things(ProofShop shop, int n) {
        shop.things(n);
        return 0;
    }

    private static void toldFirst() {
        due.term("Of several exceptions the one told first is thrown;");
        ProofShop shop = shop();
        due.fails("things", Due.ARGUMENT, () -> things(shop, 4));
        due.fails("holds", Due.INDEX, () -> Due.bit(shop.holds(5, -1)));
        due.fails("rules", Due.INDEX, () -> shop.rules(3, -1));
        due.fails("price of no house", Due.INDEX, () -> shop.price(3, 17, 100));
        due.fails("price of no rule", Due.INDEX, () -> shop.price(0, 17, 100));
        due.fails("line of no house", Due.INDEX, () -> shop.line(3, 0, 2, NONE, 0, NONE));
        due.fails("line of no formula", Due.INDEX, () -> shop.line(0, 5, 2, NONE, 0, NONE));
        due.fails("line of no rule", Due.INDEX, () -> shop.line(0, 0, 16, NONE, 0, NONE));
        due.fails("line of no customer", Due.INDEX, () -> shop.line(0, 0, 0, 4, 0, NONE));
        due.fails("line of no premise", Due.INDEX, () -> shop.line(0, 0, 2, NONE, 5, NONE));
        due.fails("look", Due.INDEX, () -> shop.look(5, 7));
        due.fails("is", Due.INDEX, () -> Due.bit(shop.is(5, 5)));
        due.fails("gains", Due.INDEX, () -> shop.gains(3, 32));
        due.fails("sell", Due.INDEX, () -> shop.sell(5, 7, -1, -1));
        due.fails("owes", Due.INDEX, () -> shop.owes(3, 7, 32));
    }

    private static void toldFirstOfFull() {
        due.term("Of several exceptions the one told first is thrown;");
        ProofShop shop = full();
        shop.end(1);
        due.fails("formula", Due.ARGUMENT, () -> shop.formula());
        Due.tape(shop, "q");
        due.fails("formula without a fault", Due.UNSUPPORTED, () -> shop.formula());
        due.fails("line of no house", Due.INDEX, () -> shop.line(3, 0, 2, NONE, 0, NONE));
        due.fails("line of no premise", Due.INDEX, () -> shop.line(0, 0, 2, 40, NONE, NONE));
        due.fails("line behind none", Due.ARGUMENT, () -> shop.line(0, 0, 2, NONE, 0, NONE));
        due.fails("line without a fault", Due.UNSUPPORTED, () -> shop.line(0, 0, 2, 0, 0, NONE));
        due.fails("sell no line", Due.INDEX, () -> shop.sell(40, 7, -1, -1));
        due.fails("sell to none", Due.ARGUMENT, () -> shop.sell(0, 7, 0, 0));
        due.fails("sell without a fault", Due.UNSUPPORTED, () -> shop.sell(0, 0, 0, 0));
    }

    /** The call is refused, and all is as in a shop that was never asked. */
    private static void leaves(String what, String want, Consumer<ProofShop> call) {
        ProofShop shop = shop();
        due.fails(what, want, () -> run(shop, call));
        isAlike("tape behind " + what, tape(shop()), tape(shop));
        ProofShop other = shop();
        due.fails(what, want, () -> run(other, call));
        isAlike("all behind " + what, all(shop()), all(other));
    }

    private static long run(ProofShop shop, Consumer<ProofShop> call) {
        call.accept(shop);
        return 0;
    }

    private static void changesNothing() {
        due.term("a call that throws changes nothing but the TAPE, where it is used up.");
        leaves("things 0", Due.ARGUMENT, s -> s.things(0));
        leaves("things 3", Due.STATE, s -> s.things(3));
        leaves("signs", Due.INDEX, s -> s.signs(5));
        leaves("same", Due.INDEX, s -> s.same(0, 5));
        leaves("holds", Due.INDEX, s -> s.holds(5, 0));
        leaves("holds in no world", Due.ARGUMENT, s -> s.holds(0, 256));
        leaves("worlds", Due.INDEX, s -> s.worlds(5));
        leaves("rules of no house", Due.INDEX, s -> s.rules(3, 0));
        leaves("rules", Due.ARGUMENT, s -> s.rules(0, 65536));
        leaves("price of no house", Due.INDEX, s -> s.price(3, 0, 0));
        leaves("price of no rule", Due.INDEX, s -> s.price(0, 17, 0));
        leaves("price", Due.ARGUMENT, s -> s.price(0, 0, 100));
        leaves("price of signs", Due.ARGUMENT, s -> s.price(0, 16, 10));
        leaves("believe of no customer", Due.INDEX, s -> s.believe(4, 0, true));
        leaves("believe no formula", Due.INDEX, s -> s.believe(0, 5, true));
        leaves("believe no formula any more", Due.INDEX, s -> s.believe(0, -1, false));
        leaves("beliefs", Due.INDEX, s -> s.beliefs(4));
        leaves("line of no house", Due.INDEX, s -> s.line(3, 0, 1, NONE, NONE, NONE));
        leaves("line of no formula", Due.INDEX, s -> s.line(0, 5, 1, NONE, NONE, NONE));
        leaves("line of no rule", Due.INDEX, s -> s.line(0, 0, 16, NONE, NONE, NONE));
        leaves("line of no customer", Due.INDEX, s -> s.line(0, 0, 0, 4, NONE, NONE));
        leaves("line of no premise", Due.INDEX, s -> s.line(0, 0, 9, 0, 0, 5));
        leaves("line behind none", Due.ARGUMENT, s -> s.line(0, 0, 9, 0, NONE, 0));
        leaves("line by rule 0", Due.ARGUMENT, s -> s.line(0, 0, 0, 0, 0, NONE));
        leaves("look", Due.INDEX, s -> s.look(5, 0));
        leaves("look what", Due.NO_ELEMENT, s -> s.look(0, 7));
        leaves("is", Due.INDEX, s -> s.is(5, 0));
        leaves("is what", Due.NO_ELEMENT, s -> s.is(0, 5));
        leaves("rests", Due.INDEX, s -> s.rests(5));
        leaves("needs", Due.INDEX, s -> s.needs(5));
        leaves("spent", Due.INDEX, s -> s.spent(5));
        leaves("falls", Due.INDEX, s -> s.falls(0, 5));
        leaves("follows", Due.INDEX, s -> s.follows(4, 0));
        leaves("counter", Due.INDEX, s -> s.counter(4, 0));
        leaves("cheapest", Due.INDEX, s -> s.cheapest(0, 0, 5));
        leaves("lastly", Due.INDEX, s -> s.lastly(0, 4, 0));
        leaves("where", Due.INDEX, s -> s.where(4, 0));
        leaves("resold", Due.INDEX, s -> s.resold(3, 0, 0));
        leaves("forward", Due.INDEX, s -> s.forward(3, 0, 0));
        leaves("truths", Due.ARGUMENT, s -> s.truths(256));
        leaves("agree", Due.INDEX, s -> s.agree(0, 4));
        leaves("idle", Due.INDEX, s -> s.idle(4));
        leaves("alike", Due.INDEX, s -> s.alike(5));
        leaves("more", Due.INDEX, s -> s.more(0, 5));
        leaves("gains of no house", Due.INDEX, s -> s.gains(3, 0));
        leaves("gains", Due.ARGUMENT, s -> s.gains(0, 32));
        leaves("sell no line", Due.INDEX, s -> s.sell(5, 0, 1, 1));
        leaves("sell to none", Due.ARGUMENT, s -> s.sell(0, 7, 1, 1));
        leaves("sell to itself", Due.ARGUMENT, s -> s.sell(0, 4, 1, 1));
        leaves("sell for none", Due.ARGUMENT, s -> s.sell(0, 0, 10000, 1));
        leaves("sell on none", Due.ARGUMENT, s -> s.sell(0, 0, 1, 10000));
        leaves("undo", Due.INDEX, s -> s.undo(4));
        leaves("owes of no house", Due.INDEX, s -> s.owes(3, 0, 0));
        leaves("owes to none", Due.ARGUMENT, s -> s.owes(0, 7, 0));
        leaves("owes by none", Due.ARGUMENT, s -> s.owes(0, 0, 32));
        leaves("refunds", Due.ARGUMENT, s -> s.refunds(32));
        leaves("chain", Due.INDEX, s -> s.chain(5));
    }

    private static void changesNothingInFull() {
        due.term("a call that throws changes nothing but the TAPE, where it is used up.");
        String all = all(full());
        ProofShop line = full();
        due.fails("a 41st line", Due.UNSUPPORTED, () -> line.line(0, 0, 1, NONE, NONE, NONE));
        isAlike("all behind a line", all, all(line));
        ProofShop receipt = full();
        due.fails("a 31st receipt", Due.UNSUPPORTED, () -> receipt.sell(0, 0, 1, 1));
        isAlike("all behind a receipt", all, all(receipt));
        ProofShop set = full();
        due.fails("withdraw of fifteen", Due.ARGUMENT, () -> set.withdraw(0x7FFF));
        due.fails("core of fifteen", Due.ARGUMENT, () -> set.core(0x7FFF));
        isAlike("tape behind sets", tape(full()), tape(set));
        isAlike("all behind sets", all, all(set));
    }

    private static void changesTheTape() {
        due.term("a call that throws changes nothing but the TAPE, where it is used up.");
        ProofShop shop = shop();
        shop.end(0);
        Due.tape(shop, "some(fx&gx)&t");
        due.fails("a wrong text", Due.ARGUMENT, () -> shop.formula());
        isAlike("all behind a wrong text", all(shop()), all(shop));
        ProofShop used = shop();
        used.end(0);
        Due.tape(used, "some(fx&gx)&t");
        due.fails("a wrong text", Due.ARGUMENT, () -> used.formula());
        due.is("its fault", 12, used.fault());
        due.is("the tape is used up", 20, used.feed(0, 0, 0, 0, 0));
        ProofShop full = full();
        due.fails("a 31st formula", Due.UNSUPPORTED, () -> full.formula());
        isAlike("all behind it", all(full()), all(full));
        ProofShop fullUsed = full();
        due.fails("a 31st formula", Due.UNSUPPORTED, () -> fullUsed.formula());
        due.is("the tape is used up", 20, fullUsed.feed(0, 0, 0, 0, 0));
    }

    private static void manyCalls() {
        due.quote(Document.WHAT_IT_IS, "An object is used for at most 512 calls after it has been made; what later calls answer is free.");
        ProofShop shop = new ProofShop();
        int calls = 0;
        for (int i = 0; i < 30; i++) {
            shop.feed('p' << 24 | '>' << 16 | 'q' << 8, 0, 0, 0, 0);
            shop.end(i == 0 ? 1 : 3);
            due.is("formula", i, shop.formula());
            due.is("told", true, shop.believe(0, i, true));
            calls += 4;
        }
        for (int i = 0; i < 40; i++) {
            due.is("line", i, shop.line(i % 3, 0, 0, 0, NONE, NONE));
            calls++;
        }
        for (int i = 0; i < 30; i++) {
            due.is("receipt", i, shop.sell(i, i % 4, i, 0));
            calls++;
        }
        while (calls < 508) {
            due.is("cheapest", 11, shop.cheapest(calls % 3, 0, 0));
            shop.image();
            calls += 2;
        }
        due.is("the 509th", true, shop.back());
        due.is("the 510th", 13, shop.cheapest(2, 0, 29));
        due.is("the 511th", 0, shop.refunds(15));
        due.is("the 512th", 30 * 29 / 2, shop.count(6));
        due.is("calls", 508, calls);
    }
}
