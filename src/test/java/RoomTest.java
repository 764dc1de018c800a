import com.sun.management.ThreadMXBean;
import java.lang.management.ManagementFactory;

/** All calls of a run live in one room: objects make their rows at first, and questions make none. */
public final class RoomTest {
    private static final Due due = new Due();
    private static final ThreadMXBean BEAN = (ThreadMXBean) ManagementFactory.getThreadMXBean();
    private static final int QUESTIONS = 300;

    public static void main(String[] args) {
        made();
        ask(full());
        long atFirst = made();
        ProofShop shop = new ProofShop();
        due.is("a new object is small", true, made() - atFirst < 60_000);
        due.is("and empty", 0, shop.count(1));
        long beforeFull = made();
        ProofShop full = full();
        due.is("a full object is not large", true, made() - beforeFull < 1_500_000);
        long beforeAsking = made();
        ask(full);
        due.is("questions make nothing", true, made() - beforeAsking < 2_000);
        manyImages();
        mostParts();
        due.close("RoomTest");
    }

    private static long made() {
        return BEAN.getThreadAllocatedBytes(Thread.currentThread().getId());
    }

    /** Thirty formulas of forty signs over three things, as unlike as they can be. */
    private static ProofShop full() {
        ProofShop shop = new ProofShop();
        shop.things(3);
        String[] atoms = {"fx", "gx", "f0", "f1", "f2", "g0", "g1", "g2", "p", "q", "r", "s"};
        for (int i = 0; i < 30; i++) {
            StringBuilder text = new StringBuilder(i % 2 == 0 ? "all(" : "some(").append(atoms[i % 2]);
            for (int k = 1; k < 20; k++) {
                text.append((i * 7 + k * k) % 3 == 0 ? '&' : '|').append(atoms[(i * 5 + k * (i % 7 + 1)) % 12]);
            }
            due.is("formula " + i, i, Due.tell(shop, text.append(')').toString()));
            due.is("signs", 40, shop.signs(i));
            shop.believe(i % 4, i, true);
        }
        for (int i = 0; i < 40; i++) {
            shop.line(i % 3, i % 30, i < 3 ? 1 : 9, i < 3 ? -1 : i - 1, i < 3 ? -1 : i - 2, i < 3 ? -1 : i - 3);
        }
        for (int i = 0; i < 30; i++) {
            shop.sell(39 - i, i % 4, 9999, i % 3);
        }
        return shop;
    }

    private static long ask(ProofShop shop) {
        long sum = 0;
        for (int i = 0; i < QUESTIONS; i++) {
            int f = i % 30;
            int c = i % 4;
            int h = i % 3;
            sum += shop.cheapest(h, c, f) + shop.lastly(h, c, f) + shop.where(c, f) + shop.resold(h, c, f);
            sum += shop.forward(h, c, f) + shop.more(c, f) + shop.counter(c, f) + shop.agree(c, h);
            sum += shop.withdraw(0x3FFF << i % 16) + shop.core(0x3FFF << i % 16) + shop.idle(c) + shop.alike(f);
            sum += shop.refunds(31) + shop.owes(h, c, 31) + shop.gains(h, 31) + shop.dearer() + shop.falls(c, f);
            sum += shop.wrong() + shop.count(5) + shop.truths(i) + shop.worlds(f) + shop.spent(f) + shop.chain(f);
            shop.image();
            shop.back();
        }
        return sum;
    }

    /** What is told behind an image and forgotten again takes no room for good. */
    private static void manyImages() {
        ProofShop shop = new ProofShop();
        shop.image();
        long sum = 0;
        for (int i = 0; i < 120; i++) {
            StringBuilder text = new StringBuilder("all(fx");
            for (int bit = 0; bit < 7; bit++) {
                text.append((i >> bit & 1) == 0 ? "&gx" : "|p");
            }
            Due.tape(shop, text.append(')').toString());
            long before = made();
            shop.formula();
            shop.back();
            sum += made() - before;
        }
        due.is("forgotten formulas", true, sum < 20_000);
        due.is("none is left", 0, shop.count(1));
    }

    /** Thirty formulas that share no parts but atoms: some 2300 with each thing in place of x, all still there. */
    private static void mostParts() {
        ProofShop shop = new ProofShop();
        shop.things(3);
        for (int i = 0; i < 30; i++) {
            String[] atoms = rowOf(i);
            String text = "all(" + String.join(i < 24 ? "&" : "|", atoms) + ")";
            due.is("formula " + text, i, Due.tell(shop, text));
        }
        for (int i = 0; i < 30; i++) {
            int worlds = 0;
            for (int world = 0; world < 1024; world++) {
                boolean want = holdsForAll(rowOf(i), i < 24, world);
                worlds += want ? 1 : 0;
                if (shop.holds(i, world) != want) {
                    due.is("formula " + i + " in world " + world, want, !want);
                }
            }
            due.is("worlds of " + i, worlds, shop.worlds(i));
            due.is("signs of " + i, 40, shop.signs(i));
        }
        due.is("truths", shop.count(1), shop.truths(1023));
    }

    private static String[] rowOf(int i) {
        String[] seconds = {"p", "q", "r", "s", "f0", "f1", "f2", "g0", "g1", "g2", "fx", "gx"};
        String[] atoms = new String[20];
        for (int k = 0; k < atoms.length; k++) {
            atoms[k] = k == 0 ? seconds[10 + i % 2] : k == 1 ? seconds[i / 2 % 12] : seconds[k % 3];
        }
        return atoms;
    }

    private static boolean holdsForAll(String[] atoms, boolean isAnd, int world) {
        for (int thing = 0; thing < 3; thing++) {
            boolean holds = isAnd;
            for (String atom : atoms) {
                boolean its = (world >> bitOf(atom, thing) & 1) != 0;
                holds = isAnd ? holds && its : holds || its;
            }
            if (!holds) {
                return false;
            }
        }
        return true;
    }

    private static int bitOf(String atom, int thing) {
        if (atom.length() == 1) {
            return "pqrs".indexOf(atom);
        }
        int at = atom.charAt(1) == 'x' ? thing : atom.charAt(1) - '0';
        return (atom.charAt(0) == 'f' ? 4 : 7) + at;
    }
}
