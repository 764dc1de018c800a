/** Promises 9, 10, 23, 24 and 30 to 36: what holds in which worlds. */
public final class WorldsTest {
    private static final Due due = new Due();

    public static void main(String[] args) {
        holds();
        worlds();
        follows();
        truths();
        agree();
        withdraw();
        idle();
        alike();
        core();
        more();
        moreOfThree();
        due.close("WorldsTest");
    }

    private static void holdsJustIn(int things, String text, int bit) {
        ProofShop shop = Due.shopOf(things, text);
        for (int world = 0; world < 16 << 2 * things; world++) {
            due.is(text + " in " + world, (world >> bit & 1) != 0, shop.holds(0, world));
        }
    }

    private static void holds() {
        for (int things = 1; things <= 3; things++) {
            holdsJustIn(things, "p", 0);
            holdsJustIn(things, "q", 1);
            holdsJustIn(things, "r", 2);
            holdsJustIn(things, "s", 3);
            holdsJustIn(things, "f0", 4);
            holdsJustIn(things, "g0", 4 + things);
        }
        holdsJustIn(2, "f1", 5);
        holdsJustIn(2, "g1", 7);
        holdsJustIn(3, "f2", 6);
        holdsJustIn(3, "g1", 8);
        holdsJustIn(3, "g2", 9);
        ProofShop shop = Due.shop("p>q", "p|q", "p&q", "-p", "all(fx>gx)", "some(fx&gx)", "p>q>p", "all f0");
        for (int world = 0; world < 256; world++) {
            boolean p = (world & 1) != 0;
            boolean q = (world & 2) != 0;
            int f = world >> 4 & 3;
            int g = world >> 6 & 3;
            due.is("p>q", !p || q, shop.holds(0, world));
            due.is("p|q", p || q, shop.holds(1, world));
            due.is("p&q", p && q, shop.holds(2, world));
            due.is("-p", !p, shop.holds(3, world));
            due.is("all(fx>gx)", (f & ~g) == 0, shop.holds(4, world));
            due.is("some(fx&gx)", (f & g) != 0, shop.holds(5, world));
            due.is("p>q>p", true, shop.holds(6, world));
            due.is("all f0", (f & 1) != 0, shop.holds(7, world));
        }
        due.fails("holds 8", Due.INDEX, () -> shop.holds(8, 0) ? 1 : 0);
        due.fails("holds 8 in no world", Due.INDEX, () -> shop.holds(8, -1) ? 1 : 0);
        due.fails("world -1", Due.ARGUMENT, () -> shop.holds(0, -1) ? 1 : 0);
        due.fails("world 256", Due.ARGUMENT, () -> shop.holds(0, 256) ? 1 : 0);
        ProofShop one = Due.shopOf(1, "p");
        due.fails("world 64 of one thing", Due.ARGUMENT, () -> one.holds(0, 64) ? 1 : 0);
        ProofShop three = Due.shopOf(3, "p");
        due.is("world 1023 of three things", true, three.holds(0, 1023));
        due.fails("world 1024 of three things", Due.ARGUMENT, () -> three.holds(0, 1024) ? 1 : 0);
    }

    private static void worlds() {
        ProofShop shop = Due.shopOf(3, "p", "p&-p", "p|-p", "all fx", "some gx", "all(fx|gx)");
        due.is("p", 512, shop.worlds(0));
        due.is("never", 0, shop.worlds(1));
        due.is("always", 1024, shop.worlds(2));
        due.is("all fx", 128, shop.worlds(3));
        due.is("some gx", 896, shop.worlds(4));
        due.is("all(fx|gx)", 16 * 27, shop.worlds(5));
        due.is("one thing", 32, Due.shopOf(1, "all fx").worlds(0));
        due.fails("worlds 6", Due.INDEX, () -> shop.worlds(6));
        due.fails("worlds -1", Due.INDEX, () -> shop.worlds(-1));
    }

    private static void follows() {
        ProofShop shop = Due.shop("p", "p>q", "q", "-p", "r", "r|-r", "f0", "some fx", "all fx");
        shop.believe(0, 0, true);
        shop.believe(0, 1, true);
        due.is("q follows", true, shop.follows(0, 2));
        due.is("no counter", -1, shop.counter(0, 2));
        due.is("r does not", false, shop.follows(0, 4));
        due.is("counter of r", 3, shop.counter(0, 4));
        due.is("counter of -p", 3, shop.counter(0, 3));
        due.is("always", true, shop.follows(1, 5));
        due.is("counter of p from nothing", 0, shop.counter(1, 0));
        due.is("counter of p>q from nothing", 1, shop.counter(1, 1));
        shop.believe(0, 3, true);
        due.is("all from a contradiction", true, shop.follows(0, 4));
        due.is("no counter there", -1, shop.counter(0, 8));
        shop.believe(2, 6, true);
        due.is("some from one", true, shop.follows(2, 7));
        due.is("all from one", false, shop.follows(2, 8));
        due.is("its counter", 16, shop.counter(2, 8));
        due.fails("follows 4 0", Due.INDEX, () -> shop.follows(4, 0) ? 1 : 0);
        due.fails("follows 0 9", Due.INDEX, () -> shop.follows(0, 9) ? 1 : 0);
        due.fails("counter -1 0", Due.INDEX, () -> shop.counter(-1, 0));
        due.fails("counter 0 -1", Due.INDEX, () -> shop.counter(0, -1));
    }

    private static void truths() {
        ProofShop shop = Due.shop("p", "p", "q", "all fx", "-p");
        due.is("world 0", 1, shop.truths(0));
        due.is("world 1", 2, shop.truths(1));
        due.is("world 51", 4, shop.truths(51));
        due.fails("world -1", Due.ARGUMENT, () -> shop.truths(-1));
        due.fails("world 256", Due.ARGUMENT, () -> shop.truths(256));
        due.is("of none", 0, new ProofShop().truths(255));
    }

    private static void agree() {
        ProofShop shop = Due.shop("p", "q", "-p", "f1");
        due.is("of nothing", 0, shop.agree(0, 1));
        shop.believe(0, 0, true);
        shop.believe(1, 1, true);
        due.is("both", 3, shop.agree(0, 1));
        due.is("one alone", 1, shop.agree(0, 0));
        shop.believe(2, 2, true);
        due.is("they cannot", -1, shop.agree(0, 2));
        due.is("they cannot, turned", -1, shop.agree(2, 0));
        due.is("those can", 2, shop.agree(1, 2));
        shop.believe(3, 3, true);
        due.is("higher bits", 33, shop.agree(0, 3));
        due.fails("agree 4 0", Due.INDEX, () -> shop.agree(4, 0));
        due.fails("agree 0 -1", Due.INDEX, () -> shop.agree(0, -1));
    }

    private static ProofShop many() {
        return Due.shop("p", "-p", "q", "-q", "p&q", "r", "-r", "s", "f0", "f1", "g0", "g1", "all fx", "some gx", "s", "r");
    }

    private static void withdraw() {
        ProofShop shop = many();
        due.is("of none", 0, shop.withdraw(0));
        due.is("of one", 0, shop.withdraw(1));
        due.is("p and -p", 1, shop.withdraw(3));
        due.is("p, -p, q, -q: the least", 5, shop.withdraw(15));
        due.is("p, -p, p&q", 2, shop.withdraw(1 | 2 | 16));
        due.is("-p, -q, p&q", 16, shop.withdraw(2 | 8 | 16));
        due.is("p, -p, q, -q, p&q", 10, shop.withdraw(31));
        due.is("bits of none count for nothing", 1, shop.withdraw(3 | 1 << 16 | 1 << 30 | 1 << 31));
        due.is("14", 0b100000 + 10, shop.withdraw(0x3FFF));
        due.fails("15", Due.ARGUMENT, () -> shop.withdraw(0x7FFF));
        due.fails("16", Due.ARGUMENT, () -> shop.withdraw(-1));
        due.is("a set of none", 0, new ProofShop().withdraw(-1));
        ProofShop never = Due.shop("p&-p");
        due.is("what never holds", 1, never.withdraw(1));
    }

    private static void core() {
        ProofShop shop = many();
        due.is("of none", 0, shop.core(0));
        due.is("without", 0, shop.core(1 | 4 | 16));
        due.is("p and -p", 3, shop.core(3));
        due.is("of several the least", 3, shop.core(15));
        due.is("q and -q", 12, shop.core(12 | 1));
        due.is("-p and p&q", 18, shop.core(2 | 16 | 32));
        due.is("high ones", 96, shop.core(0x3FE0));
        due.is("bits of none", 3, shop.core(3 | 1 << 20 | 1 << 31));
        due.fails("15", Due.ARGUMENT, () -> shop.core(0x7FFF));
        ProofShop three = Due.shop("p|q", "-p", "-q", "p>r", "-r", "p", "s&-s");
        due.is("three", 7, three.core(7));
        due.is("two before three", 34, three.core(63));
        due.is("one before two", 64, three.core(127));
        due.is("p, p>r, -r", 56, three.core(56));
    }

    private static void idle() {
        ProofShop shop = Due.shop("p", "p>q", "q", "( p )", "r|-r", "-p");
        due.is("nothing", 0, shop.idle(0));
        shop.believe(0, 0, true);
        due.is("p alone", 0, shop.idle(0));
        shop.believe(0, 1, true);
        due.is("p, p>q", 0, shop.idle(0));
        shop.believe(0, 2, true);
        due.is("p, p>q, q", 6, shop.idle(0));
        shop.believe(0, 3, true);
        due.is("a SAME one, too", 15, shop.idle(0));
        shop.believe(1, 4, true);
        due.is("what always holds", 16, shop.idle(1));
        shop.believe(2, 0, true);
        shop.believe(2, 5, true);
        due.is("p, -p", 0, shop.idle(2));
        shop.believe(2, 2, true);
        due.is("q from a contradiction", 4, shop.idle(2));
        due.fails("idle 4", Due.INDEX, () -> shop.idle(4));
        due.fails("idle -1", Due.INDEX, () -> shop.idle(-1));
    }

    private static void alike() {
        ProofShop shop = Due.shop("p&q", "q&p", "p", "- -p", "all fx", "f0&f1", "p&q", "-(p>-q)");
        due.is("p&q", 0b11000011, shop.alike(0));
        due.is("p", 0b1100, shop.alike(2));
        due.is("all fx", 0b110000, shop.alike(5));
        due.fails("alike 8", Due.INDEX, () -> shop.alike(8));
        due.fails("alike -1", Due.INDEX, () -> shop.alike(-1));
        due.is("three things", 1, Due.shopOf(3, "all fx", "f0&f1").alike(0));
    }

    private static void more() {
        ProofShop shop = Due.shop("p", "p>q", "q", "q", "-p", "q&r");
        shop.believe(0, 0, true);
        due.is("p>q is missing", 2, shop.more(0, 2));
        due.is("p follows already", 0, shop.more(0, 0));
        due.is("-p would contradict", -1, shop.more(0, 4));
        due.is("from nothing: q&r, not q itself, nor the SAME", 32, shop.more(1, 2));
        shop.believe(0, 4, true);
        due.is("a contradiction", -1, shop.more(0, 2));
        ProofShop two = Due.shop("q", "p", "s", "p>q", "s>q");
        due.is("two: the least bits", 0b1010, two.more(0, 0));
        two.believe(0, 2, true);
        due.is("one then", 0b10000, two.more(0, 0));
        ProofShop none = Due.shop("p", "q", "r");
        due.is("none", -1, none.more(0, 0));
        ProofShop always = Due.shop("p|-p");
        due.is("what always holds", 0, always.more(3, 0));
        ProofShop early = Due.shopOf(3, "p", "p&-g2");
        due.is("holds in lesser worlds alone", 2, early.more(0, 0));
        due.fails("more 4 0", Due.INDEX, () -> shop.more(4, 0));
        due.fails("more 0 6", Due.INDEX, () -> shop.more(0, 6));
    }

    private static void moreOfThree() {
        ProofShop shop = Due.shop("p&q&r", "r", "q", "p", "s");
        due.is("three", 0b1110, shop.more(0, 0));
        ProofShop four = Due.shop("p&q&r&s", "r", "q", "p", "s");
        due.is("four are too many", -1, four.more(0, 0));
        four.believe(0, 4, true);
        due.is("three and a belief", 0b1110, four.more(0, 0));
        ProofShop choice = Due.shop("p&q&r", "s", "s>p", "q", "r", "p");
        due.is("of several the least", 0b111000, choice.more(0, 0));
        choice.believe(0, 1, true);
        due.is("less with s", 0b11100, choice.more(0, 0));
    }
}
