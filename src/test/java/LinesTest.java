/** Promises 11 to 22 and 43: houses, customers and lines. */
public final class LinesTest {
    private static final Due due = new Due();
    private static final int NONE = ProofShop.NONE;

    public static void main(String[] args) {
        rules();
        price();
        believe();
        lineErrors();
        lineLimit();
        look();
        lookErrors();
        honestPlain();
        honestBinders();
        honestBought();
        honestHouse();
        sound();
        restsAndOpen();
        staleAndSaved();
        wrong();
        needsAndSpent();
        falls();
        chain();
        due.close("LinesTest");
    }

    private static void rules() {
        ProofShop shop = new ProofShop();
        due.is("rules at first", 65535, shop.rules(1, 5));
        due.is("rules then", 5, shop.rules(1, 0));
        due.is("rules then", 0, shop.rules(1, 65535));
        due.is("of another house", 65535, shop.rules(2, 65535));
        due.fails("rules of house 3", Due.INDEX, () -> shop.rules(3, -1));
        due.fails("rules of house -1", Due.INDEX, () -> shop.rules(-1, 0));
        due.fails("rules 65536", Due.ARGUMENT, () -> shop.rules(0, 65536));
        due.fails("rules -1", Due.ARGUMENT, () -> shop.rules(0, -1));
        due.is("nothing changed", 65535, shop.rules(0, 65535));
    }

    private static void price() {
        ProofShop shop = new ProofShop();
        due.is("price at first", 10, shop.price(0, 7, 99));
        due.is("price then", 99, shop.price(0, 7, 0));
        due.is("price then", 0, shop.price(0, 7, 10));
        due.is("sign at first", 1, shop.price(0, 16, 9));
        due.is("sign then", 9, shop.price(0, 16, 0));
        due.is("of another house", 1, shop.price(1, 16, 1));
        due.is("of another rule", 10, shop.price(0, 15, 10));
        due.fails("house 3", Due.INDEX, () -> shop.price(3, 0, 0));
        due.fails("rule 17", Due.INDEX, () -> shop.price(0, 17, 0));
        due.fails("rule -1", Due.INDEX, () -> shop.price(0, -1, -1));
        due.fails("price 100", Due.ARGUMENT, () -> shop.price(0, 0, 100));
        due.fails("price -1", Due.ARGUMENT, () -> shop.price(0, 0, -1));
        due.fails("sign 10", Due.ARGUMENT, () -> shop.price(0, 16, 10));
        due.is("nothing changed", 0, shop.price(0, 16, 0));
    }

    private static void believe() {
        ProofShop shop = Due.shop("p", "p", "q");
        due.is("new", true, shop.believe(3, 0, true));
        due.is("not new", false, shop.believe(3, 0, true));
        due.is("that number alone", 1, shop.beliefs(3));
        due.is("a SAME one is new", true, shop.believe(3, 1, true));
        due.is("both", 3, shop.beliefs(3));
        due.is("not told", false, shop.believe(3, 2, false));
        due.is("no more", true, shop.believe(3, 0, false));
        due.is("the other alone", 2, shop.beliefs(3));
        due.is("of another", 0, shop.beliefs(2));
        due.fails("customer 4", Due.INDEX, () -> shop.believe(4, 0, true) ? 1 : 0);
        due.fails("customer -1", Due.INDEX, () -> shop.believe(-1, 0, true) ? 1 : 0);
        due.fails("formula 3", Due.INDEX, () -> shop.believe(0, 3, true) ? 1 : 0);
        due.fails("formula -1", Due.INDEX, () -> shop.believe(0, -1, false) ? 1 : 0);
        due.fails("beliefs 4", Due.INDEX, () -> shop.beliefs(4));
        due.fails("beliefs -1", Due.INDEX, () -> shop.beliefs(-1));
    }

    private static void lineErrors() {
        ProofShop shop = Due.shop("p");
        due.is("line 0", 0, shop.line(0, 0, 1, NONE, NONE, NONE));
        due.is("line 1", 1, shop.line(0, 0, 2, 0, 0, 0));
        due.fails("house 3", Due.INDEX, () -> shop.line(3, 0, 1, NONE, NONE, NONE));
        due.fails("house -1", Due.INDEX, () -> shop.line(-1, 0, 1, NONE, NONE, NONE));
        due.fails("formula 1", Due.INDEX, () -> shop.line(0, 1, 1, NONE, NONE, NONE));
        due.fails("rule 16", Due.INDEX, () -> shop.line(0, 0, 16, NONE, NONE, NONE));
        due.fails("rule -1", Due.INDEX, () -> shop.line(0, 0, -1, NONE, NONE, NONE));
        due.fails("premise 2", Due.INDEX, () -> shop.line(0, 0, 2, 2, NONE, NONE));
        due.fails("premise -2", Due.INDEX, () -> shop.line(0, 0, 2, 0, -2, NONE));
        due.fails("third premise 2", Due.INDEX, () -> shop.line(0, 0, 2, 0, 0, 2));
        due.fails("third premise 2 behind none", Due.INDEX, () -> shop.line(0, 0, 2, NONE, NONE, 2));
        due.fails("customer 4", Due.INDEX, () -> shop.line(0, 0, 0, 4, NONE, NONE));
        due.fails("no customer", Due.INDEX, () -> shop.line(0, 0, 0, NONE, NONE, NONE));
        due.fails("second behind none", Due.ARGUMENT, () -> shop.line(0, 0, 2, NONE, 0, NONE));
        due.fails("third behind none", Due.ARGUMENT, () -> shop.line(0, 0, 2, 0, NONE, 0));
        due.fails("third behind two", Due.ARGUMENT, () -> shop.line(0, 0, 1, NONE, NONE, 0));
        due.fails("another of a belief", Due.ARGUMENT, () -> shop.line(0, 0, 0, 0, 0, NONE));
        due.fails("a third of a belief", Due.ARGUMENT, () -> shop.line(0, 0, 0, 0, NONE, 0));
        due.fails("no such line by a belief", Due.INDEX, () -> shop.line(0, 0, 0, 0, 7, NONE));
        due.is("customer 3", 2, shop.line(0, 0, 0, 3, NONE, NONE));
        due.is("lines", 3, shop.count(2));
    }

    private static void lineLimit() {
        ProofShop shop = Due.shop("p");
        for (int i = 0; i < 40; i++) {
            due.is("line " + i, i, shop.line(i % 3, 0, i == 0 ? 1 : 15, i - 1, NONE, NONE));
        }
        due.fails("line 40", Due.UNSUPPORTED, () -> shop.line(0, 0, 1, NONE, NONE, NONE));
        due.fails("wrong order first", Due.ARGUMENT, () -> shop.line(0, 0, 1, NONE, 0, NONE));
        due.fails("no such line first", Due.INDEX, () -> shop.line(0, 0, 1, 40, NONE, NONE));
        due.is("chain", 39, shop.chain(39));
        due.is("needs", (1L << 40) - 1, shop.needs(39));
        due.is("rests", 1, shop.rests(39));
        due.is("spent", 440, shop.spent(39));
        due.is("sound", true, shop.is(39, 1));
    }

    private static void look() {
        ProofShop shop = Due.shop("p&q", "q");
        shop.line(2, 0, 0, 3, NONE, NONE);
        shop.line(1, 1, 4, 0, NONE, NONE);
        shop.line(0, 0, 9, 0, 1, 0);
        int[][] want = {{2, 0, 0, 3, NONE, NONE, 13}, {1, 1, 4, 0, NONE, NONE, 11}, {0, 0, 9, 0, 1, 0, 13}};
        for (int line = 0; line < 3; line++) {
            for (int what = 0; what < 7; what++) {
                due.is("look " + line + " " + what, want[line][what], shop.look(line, what));
            }
        }
        shop.price(2, 0, 50);
        shop.price(2, 16, 9);
        shop.price(1, 4, 0);
        due.is("cost by prices now", 77, shop.look(0, 6));
        due.is("cost by prices now", 1, shop.look(1, 6));
    }

    private static void lookErrors() {
        ProofShop shop = Due.shop("p");
        shop.line(0, 0, 1, NONE, NONE, NONE);
        due.fails("look 1", Due.INDEX, () -> shop.look(1, 9));
        due.fails("look -1", Due.INDEX, () -> shop.look(-1, 0));
        due.fails("look what 7", Due.NO_ELEMENT, () -> shop.look(0, 7));
        due.fails("look what -1", Due.NO_ELEMENT, () -> shop.look(0, -1));
        due.fails("is 1", Due.INDEX, () -> shop.is(1, 9) ? 1 : 0);
        due.fails("is what 5", Due.NO_ELEMENT, () -> shop.is(0, 5) ? 1 : 0);
        due.fails("is what -1", Due.NO_ELEMENT, () -> shop.is(0, -1) ? 1 : 0);
        due.fails("rests 1", Due.INDEX, () -> shop.rests(1));
        due.fails("rests -1", Due.INDEX, () -> shop.rests(-1));
        due.fails("needs 1", Due.INDEX, () -> shop.needs(1));
        due.fails("spent 1", Due.INDEX, () -> shop.spent(1));
        due.fails("chain 1", Due.INDEX, () -> shop.chain(1));
        due.fails("falls 4 0", Due.INDEX, () -> shop.falls(4, 0));
        due.fails("falls 0 1", Due.INDEX, () -> shop.falls(0, 1));
    }

    /** Assumes all formulas but the last, which is said to follow by a rule from the told ones. */
    private static void isHonest(boolean want, int things, int rule, int[] premises, String... texts) {
        ProofShop shop = Due.shopOf(things, texts);
        int last = texts.length - 1;
        for (int i = 0; i < last; i++) {
            shop.line(0, i, 1, NONE, NONE, NONE);
        }
        int[] p = {NONE, NONE, NONE};
        System.arraycopy(premises, 0, p, 0, premises.length);
        shop.line(0, last, rule, p[0], p[1], p[2]);
        String what = "rule " + rule + " from " + premises.length + " of " + String.join(", ", texts);
        due.is(what, want, shop.is(last, 0));
        due.is(what + ", count", want ? 0 : 1, shop.count(5));
        due.is(what + ", wrong", want ? NONE : last, shop.wrong());
    }

    private static int[] of(int... premises) {
        return premises;
    }

    private static void honestPlain() {
        isHonest(true, 2, 1, of(), "p");
        isHonest(false, 2, 1, of(0), "p", "p");
        isHonest(true, 2, 2, of(0, 1), "p", "q", "p&q");
        isHonest(false, 2, 2, of(1, 0), "p", "q", "p&q");
        isHonest(false, 2, 2, of(0, 1), "p", "q", "p|q");
        isHonest(false, 2, 2, of(0), "p", "p&p");
        isHonest(true, 2, 2, of(0, 0), "p", "p&p");
        isHonest(false, 2, 2, of(0, 0, 0), "p", "p&p");
        isHonest(true, 2, 3, of(0), "p&q&r", "p&q");
        isHonest(false, 2, 3, of(0), "p&q&r", "p");
        isHonest(false, 2, 3, of(0), "p&q", "q");
        isHonest(false, 2, 3, of(0), "p|q", "p");
        isHonest(false, 2, 3, of(0, 0), "p&q", "p");
        isHonest(true, 2, 4, of(0), "p&q&r", "r");
        isHonest(false, 2, 4, of(0), "p&q", "p");
        isHonest(true, 2, 5, of(0), "p", "p|q");
        isHonest(false, 2, 5, of(0), "q", "p|q");
        isHonest(false, 2, 5, of(0), "p", "p&q");
        isHonest(true, 2, 6, of(0), "q", "p|q");
        isHonest(false, 2, 6, of(0), "p", "p|q");
        isHonest(true, 2, 7, of(0, 1), "p", "(p)>q", "q");
        isHonest(false, 2, 7, of(1, 0), "p", "p>q", "q");
        isHonest(false, 2, 7, of(0, 1), "q", "p>q", "p");
        isHonest(true, 2, 7, of(0, 1), "p", "p>q>r", "q>r");
        isHonest(true, 2, 8, of(0), "--p", "p");
        isHonest(false, 2, 8, of(0), "p", "--p");
        isHonest(false, 2, 8, of(0), "-p", "p");
        isHonest(true, 2, 8, of(0), "---p", "-p");
        isHonest(true, 2, 9, of(0, 1, 2), "p|q", "p>r", "q>r", "r");
        isHonest(false, 2, 9, of(0, 2, 1), "p|q", "p>r", "q>r", "r");
        isHonest(false, 2, 9, of(0, 1), "p|q", "p>r", "q>r", "r");
        isHonest(false, 2, 9, of(0, 1, 2), "p|q", "p>r", "q>s", "r");
        isHonest(true, 2, 9, of(0, 1, 1), "p|p", "p>r", "r");
        isHonest(true, 2, 10, of(0, 1), "p", "q", "p>q");
        isHonest(false, 2, 10, of(1, 0), "p", "q", "p>q");
        isHonest(true, 2, 10, of(0, 0), "p", "p>p");
        isHonest(false, 2, 10, of(0), "p", "p>p");
        isHonest(true, 2, 14, of(0, 1), "p", "-p", "all fx");
        isHonest(false, 2, 14, of(1, 0), "p", "-p", "all fx");
        isHonest(true, 2, 14, of(1, 0), "--p", "-p", "q");
        ProofShop shop = Due.shop("p", "q", "p>q");
        shop.believe(0, 0, true);
        shop.line(0, 0, 0, 0, NONE, NONE);
        shop.line(0, 1, 1, NONE, NONE, NONE);
        shop.line(0, 2, 10, 0, 1, NONE);
        due.is("given what is not assumed", false, shop.is(2, 0));
    }

    private static void honestBinders() {
        isHonest(true, 2, 11, of(0), "all(fx>gx)", "f1>g1");
        isHonest(true, 2, 11, of(0), "all(fx>gx)", "f0>g0");
        isHonest(false, 2, 11, of(0), "all(fx>gx)", "f0>g1");
        isHonest(false, 2, 11, of(0), "some fx", "f0");
        isHonest(true, 2, 11, of(0), "all p", "p");
        isHonest(true, 2, 11, of(0), "all(fx&f0)", "f1&f0");
        isHonest(true, 3, 11, of(0), "all fx", "f2");
        isHonest(true, 1, 12, of(0), "f0", "all fx");
        isHonest(false, 1, 12, of(0, 0), "f0", "all fx");
        isHonest(true, 2, 12, of(0, 1), "f0", "f1", "all fx");
        isHonest(false, 2, 12, of(1, 0), "f0", "f1", "all fx");
        isHonest(false, 2, 12, of(0), "f0", "all fx");
        isHonest(false, 2, 12, of(0, 1, 1), "f0", "f1", "all fx");
        isHonest(false, 2, 12, of(0, 1), "f0", "f1", "some fx");
        isHonest(true, 2, 12, of(0, 0), "p", "all p");
        isHonest(true, 3, 12, of(0, 1, 2), "f0", "f1", "f2", "all fx");
        isHonest(false, 3, 12, of(0, 1), "f0", "f1", "f2", "all fx");
        isHonest(true, 2, 13, of(0), "f1", "some fx");
        isHonest(false, 2, 13, of(0), "g1", "some fx");
        isHonest(false, 2, 13, of(0), "f1", "all fx");
        isHonest(true, 2, 13, of(0), "f1&g1", "some(fx&gx)");
        isHonest(false, 2, 13, of(0), "f1&g0", "some(fx&gx)");
        isHonest(true, 2, 13, of(0), "f1&g0", "some(fx&g0)");
        isHonest(false, 2, 13, of(0, 0), "f1", "some fx");
    }

    private static void honestBought() {
        ProofShop shop = Due.shop("p", "(p)", "q");
        shop.line(1, 0, 1, NONE, NONE, NONE);
        shop.line(2, 1, 15, 0, NONE, NONE);
        shop.line(1, 1, 15, 0, NONE, NONE);
        shop.line(2, 2, 15, 0, NONE, NONE);
        shop.line(2, 0, 15, NONE, NONE, NONE);
        shop.line(2, 0, 15, 0, 0, NONE);
        due.is("bought of another house", true, shop.is(1, 0));
        due.is("of its own", false, shop.is(2, 0));
        due.is("another formula", false, shop.is(3, 0));
        due.is("of nobody", false, shop.is(4, 0));
        due.is("of two", false, shop.is(5, 0));
        due.is("not honest", 4, shop.count(5));
    }

    private static void honestHouse() {
        ProofShop shop = Due.shop("p", "( p )", "q");
        shop.line(1, 0, 1, NONE, NONE, NONE);
        shop.line(1, 0, 0, 2, NONE, NONE);
        due.is("assumed", true, shop.is(0, 0));
        due.is("not believed", false, shop.is(1, 0));
        shop.believe(1, 0, true);
        due.is("believed by another", false, shop.is(1, 0));
        shop.believe(2, 1, true);
        due.is("a SAME one is believed", true, shop.is(1, 0));
        shop.rules(1, 65535 & ~2);
        due.is("the house has it not", false, shop.is(0, 0));
        due.is("it has that", true, shop.is(1, 0));
        shop.rules(1, 65535 & ~1);
        due.is("it has it", true, shop.is(0, 0));
        due.is("it has that not", false, shop.is(1, 0));
    }

    private static void sound() {
        ProofShop shop = Due.shop("p", "q", "p&q", "p|q");
        shop.line(0, 0, 0, 0, NONE, NONE);
        shop.line(0, 1, 1, NONE, NONE, NONE);
        shop.line(0, 2, 2, 0, 1, NONE);
        shop.line(0, 3, 5, 0, NONE, NONE);
        shop.line(0, 3, 6, 1, NONE, NONE);
        due.is("its premise is not", true, shop.is(2, 0));
        due.is("so it is not", false, shop.is(2, 1));
        due.is("nor that", false, shop.is(3, 1));
        due.is("but this", true, shop.is(4, 1));
        shop.believe(0, 0, true);
        due.is("now it is", true, shop.is(2, 1));
        due.is("and that", true, shop.is(3, 1));
    }

    private static void restsAndOpen() {
        ProofShop shop = Due.shop("p", "q", "p&q", "p>p&q", "q>p>p&q", "p>q");
        shop.believe(0, 0, true);
        shop.line(0, 0, 1, NONE, NONE, NONE);
        shop.line(0, 1, 1, NONE, NONE, NONE);
        shop.line(0, 2, 2, 0, 1, NONE);
        shop.line(0, 3, 10, 0, 2, NONE);
        shop.line(0, 4, 10, 1, 3, NONE);
        shop.line(0, 0, 0, 0, NONE, NONE);
        shop.line(0, 5, 10, 5, 1, NONE);
        shop.line(0, 5, 1, 0, 1, NONE);
        shop.line(0, 5, 10, 0, NONE, NONE);
        shop.line(0, 5, 10, NONE, NONE, NONE);
        shop.line(0, 2, 3, NONE, NONE, NONE);
        long[] rests = {1, 2, 3, 2, 0, 32, 34, 128, 0, 0, 0};
        boolean[] open = {true, true, true, true, false, false, true, true, false, false, false};
        for (int line = 0; line < rests.length; line++) {
            due.is("rests " + line, rests[line], shop.rests(line));
            due.is("open " + line, open[line], shop.is(line, 2));
        }
        due.is("all discharged", true, shop.is(4, 1));
    }

    private static void staleAndSaved() {
        ProofShop shop = Due.shop("p", "p|q", "q", "(p)");
        shop.believe(0, 0, true);
        shop.line(0, 0, 0, 0, NONE, NONE);
        shop.line(0, 1, 5, 0, NONE, NONE);
        shop.line(1, 1, 1, NONE, NONE, NONE);
        due.is("not stale", false, shop.is(1, 3));
        due.is("so not saved", false, shop.is(1, 4));
        shop.believe(0, 3, true);
        shop.believe(0, 0, false);
        due.is("a SAME one is believed", false, shop.is(1, 3));
        shop.believe(0, 3, false);
        due.is("stale", true, shop.is(1, 3));
        due.is("its belief, too", true, shop.is(0, 3));
        due.is("not saved by an open one", false, shop.is(1, 4));
        due.is("the open one is not stale", false, shop.is(2, 3));
        shop.believe(1, 2, true);
        shop.line(2, 2, 0, 1, NONE, NONE);
        shop.line(2, 1, 6, 3, NONE, NONE);
        due.is("saved", true, shop.is(1, 4));
        due.is("the other is no stale one", false, shop.is(4, 4));
        due.is("the belief is not saved", false, shop.is(0, 4));
        shop.rules(2, 65535 & ~(1 << 6));
        due.is("not saved by one that is not sound", false, shop.is(1, 4));
        shop.rules(2, 65535);
        shop.believe(1, 2, false);
        due.is("nor by a stale one", false, shop.is(1, 4));
        ProofShop idle = Due.shop("p");
        idle.line(0, 0, 0, 0, NONE, NONE);
        due.is("never believed", true, idle.is(0, 3));
    }

    private static void wrong() {
        ProofShop shop = Due.shop("p", "q");
        due.is("no lines", NONE, shop.wrong());
        shop.line(0, 0, 1, NONE, NONE, NONE);
        due.is("all honest", NONE, shop.wrong());
        shop.line(1, 0, 1, NONE, NONE, NONE);
        shop.line(0, 1, 3, 0, NONE, NONE);
        due.is("line 2", 2, shop.wrong());
        shop.rules(1, 0);
        due.is("line 1 then", 1, shop.wrong());
        due.is("not honest", 2, shop.count(5));
    }

    private static void needsAndSpent() {
        ProofShop shop = Due.shop("p", "p&p", "(p&p)&(p&p)");
        shop.line(0, 0, 1, NONE, NONE, NONE);
        shop.line(1, 0, 15, 0, NONE, NONE);
        shop.line(1, 1, 2, 1, 1, NONE);
        shop.line(0, 2, 2, 2, 2, NONE);
        shop.line(0, 0, 0, 3, NONE, NONE);
        shop.line(2, 0, 1, 4, 2, 0);
        shop.line(2, 0, 10, 0, 5, NONE);
        long[] needs = {1, 3, 7, 15, 16, 0b110111, 0b1110111};
        int[] spent = {11, 22, 35, 52, 11, 57, 68};
        for (int line = 0; line < needs.length; line++) {
            due.is("needs " + line, needs[line], shop.needs(line));
            due.is("spent " + line, spent[line], shop.spent(line));
        }
        shop.price(1, 16, 0);
        shop.price(0, 1, 99);
        due.is("by prices of their houses", 100 + 10 + 10 + 17, shop.spent(3));
    }

    private static void falls() {
        ProofShop shop = Due.shop("p", "q", "p&q", "p");
        shop.believe(0, 0, true);
        shop.believe(1, 0, true);
        shop.line(0, 0, 0, 0, NONE, NONE);
        shop.line(0, 0, 0, 1, NONE, NONE);
        shop.line(0, 1, 0, 0, NONE, NONE);
        shop.line(0, 2, 2, 0, 2, NONE);
        shop.line(0, 2, 2, 1, 0, NONE);
        shop.line(0, 0, 3, 4, NONE, NONE);
        due.is("line 3 is stale already", 0b110001, shop.falls(0, 0));
        due.is("of the other", 0b110010, shop.falls(1, 0));
        due.is("what is not told", 0, shop.falls(0, 1));
        due.is("of no believer", 0, shop.falls(2, 0));
        due.is("a SAME one that is not told", 0, shop.falls(0, 3));
        shop.believe(0, 3, true);
        due.is("a SAME one holds it", 0, shop.falls(0, 0));
        due.is("nothing changed", 9, shop.beliefs(0));
        due.is("nothing is stale by asking", false, shop.is(0, 3));
    }

    private static void chain() {
        ProofShop shop = Due.shop("p", "p&p");
        shop.line(0, 0, 1, NONE, NONE, NONE);
        shop.line(1, 0, 15, 0, NONE, NONE);
        shop.line(2, 0, 15, 1, NONE, NONE);
        shop.line(0, 0, 15, 2, NONE, NONE);
        shop.line(0, 1, 2, 3, 3, NONE);
        shop.line(1, 1, 15, 4, NONE, NONE);
        int[] chain = {0, 1, 2, 3, 0, 1};
        for (int line = 0; line < chain.length; line++) {
            due.is("chain " + line, chain[line], shop.chain(line));
        }
    }
}
