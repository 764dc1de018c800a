import java.util.ArrayList;
import java.util.List;
import java.util.Random;

/** Runs of calls, drawn with fixed seeds, on a shop and on the oracle; every answer must be the same. */
public final class OracleTest {
    private interface Call {
        long answer();
    }

    private static final int CALLS = 500;

    private final Random random;
    private final ProofShop shop = new ProofShop();
    private final Oracle oracle = new Oracle();
    private final List<String> told = new ArrayList<>();
    private final StringBuilder log = new StringBuilder();
    private final int style;
    private int calls = 0;
    private static int wrong = 0;
    private static final java.util.TreeMap<String, Integer> seen = new java.util.TreeMap<>();

    private OracleTest(long seed) {
        random = new Random(seed);
        style = random.nextInt(4);
    }

    public static void main(String[] args) {
        int from = args.length > 0 ? Integer.parseInt(args[0]) : 0;
        int runs = args.length > 1 ? Integer.parseInt(args[1]) : 100;
        for (int seed = from; seed < from + runs && wrong < 5; seed++) {
            new OracleTest(seed).run(seed);
        }
        if (args.length > 2) {
            System.out.println(seen);
        }
        System.out.println("OracleTest: " + runs + " runs, " + wrong + " wrong");
        if (wrong != 0) {
            System.exit(1);
        }
    }

    private static String answerOf(Call call) {
        try {
            return String.valueOf(call.answer());
        } catch (RuntimeException e) {
            return e.getClass().getSimpleName();
        }
    }

    private boolean ask(String what, Call mine, Call due) {
        calls++;
        String got = answerOf(mine);
        String want = answerOf(due);
        String name = what.substring(0, what.indexOf('('));
        seen.merge(name + (want.endsWith("Exception") ? " " + want : want.equals("-1") ? " none" : want.equals("0") ? " 0" : " some"), 1, Integer::sum);
        log.append("  ").append(what).append(" = ").append(got).append('\n');
        if (!got.equals(want)) {
            log.append("  due is ").append(want).append('\n');
            return false;
        }
        return true;
    }

    private static long bit(boolean is) {
        return is ? 1 : 0;
    }

    private void run(long seed) {
        boolean isRight = true;
        if (random.nextInt(3) > 0) {
            isRight = things(1 + random.nextInt(3));
        }
        int first = 4 + random.nextInt(style == 3 ? 26 : 14);
        for (int i = 0; i < first && isRight; i++) {
            isRight = tell();
        }
        while (isRight && calls < CALLS) {
            isRight = step();
        }
        if (!isRight) {
            wrong++;
            System.out.println("seed " + seed + ":\n" + log);
        }
    }

    // ---- formulas

    private String atom(boolean isBound) {
        int kind = random.nextInt(style == 0 ? 3 : 7);
        if (kind < 2 || style == 2 && random.nextBoolean()) {
            return kind % 2 == 0 ? "p" : "q";
        }
        if (kind < 5) {
            String letter = random.nextInt(3) > 0 ? "f" : "g";
            return isBound && random.nextInt(3) > 0 ? letter + "x" : letter + random.nextInt(oracle.s.things);
        }
        return random.nextBoolean() ? "r" : "s";
    }

    private String blank() {
        return random.nextInt(6) == 0 ? " " : "";
    }

    private String unit(int size, boolean isBound) {
        if (size <= 1) {
            return atom(isBound);
        }
        int kind = random.nextInt(8);
        if (kind == 0) {
            return "-" + blank() + unit(size - 1, isBound);
        }
        if (kind <= 2 && !isBound) {
            return (random.nextBoolean() ? "all" : "some") + " " + unit(size - 1, true);
        }
        return "(" + blank() + text(size, isBound) + ")";
    }

    private String text(int size, boolean isBound) {
        if (size < 3) {
            return unit(size, isBound);
        }
        int left = 1 + random.nextInt(size - 2);
        int kind = random.nextInt(style == 1 ? 9 : 6);
        if (kind == 5) {
            return unit(size, isBound);
        }
        String sign = kind < 2 ? "&" : kind < 3 ? "|" : ">";
        return unit(left, isBound) + blank() + sign + blank() + text(size - 1 - left, isBound);
    }

    private String newText() {
        if (random.nextInt(12) == 0) {
            return text(10 + random.nextInt(32), false);
        }
        if (!told.isEmpty() && random.nextInt(4) == 0) {
            return variant(told.get(random.nextInt(told.size())));
        }
        if (!told.isEmpty() && random.nextInt(3) == 0) {
            return joined(told.get(random.nextInt(told.size())), told.get(random.nextInt(told.size())));
        }
        return text(1 + random.nextInt(random.nextInt(3) == 0 ? 9 : 4), false);
    }

    /** Told alike but for blanks and brackets. */
    private String variant(String text) {
        switch (random.nextInt(4)) {
            case 0: return "(" + text + ")";
            case 1: return " " + text + " ";
            case 2: return text.replace("&", " & ").replace(">", "> ");
            default: return text;
        }
    }

    private String joined(String a, String b) {
        switch (random.nextInt(7)) {
            case 0: return "(" + a + ")&(" + b + ")";
            case 1: return "(" + a + ")|(" + b + ")";
            case 2: case 3: return "(" + a + ")>(" + b + ")";
            case 4: return "-(" + a + ")";
            case 5: return "--(" + a + ")";
            default: return parts(a);
        }
    }

    /** A part of a formula, so that proofs are near. */
    private String parts(String text) {
        List<String> tokens = new ArrayList<>();
        if (Oracle.faultOf(text, oracle.s.things, tokens) != -1) {
            return text;
        }
        Oracle.Tree tree = Oracle.build(tokens);
        for (int i = 0; i < 2 && !tree.parts().isEmpty(); i++) {
            Oracle.Tree part = tree.part(random.nextInt(tree.parts().size()));
            tree = tree.isBinder() ? part.with(random.nextInt(oracle.s.things)) : part;
            if (random.nextBoolean()) {
                break;
            }
        }
        return tree.text();
    }

    private String spoilt(String text) {
        StringBuilder b = new StringBuilder(text);
        String signs = "pqrsfgx012-&|>() tallsomeP";
        for (int i = random.nextInt(2); i >= 0; i--) {
            int at = random.nextInt(b.length() + 1);
            char sign = random.nextInt(20) == 0 ? (char) random.nextInt(256) : signs.charAt(random.nextInt(signs.length()));
            switch (random.nextInt(3)) {
                case 0: b.insert(at, sign); break;
                case 1: b.setLength(at); break;
                default:
                    if (at < b.length()) {
                        b.setCharAt(at, sign);
                    }
            }
        }
        return b.toString();
    }

    private boolean feed(String twenty) {
        int[] n = new int[5];
        for (int i = 0; i < 20; i++) {
            n[i / 4] = n[i / 4] << 8 | (i < twenty.length() ? twenty.charAt(i) : 0);
        }
        return ask("feed('" + twenty + "')", () -> shop.feed(n[0], n[1], n[2], n[3], n[4]), () -> oracle.feed(n));
    }

    private boolean end(int n) {
        return ask("end(" + n + ")", () -> bit(shop.end(n)), () -> bit(oracle.end(n)));
    }

    private boolean tell() {
        String text = newText();
        if (random.nextInt(8) == 0) {
            text = spoilt(text);
        }
        return read(text);
    }

    private boolean read(String text) {
        boolean isRight = true;
        for (int i = 0; i < text.length() && isRight; i += 20) {
            isRight = feed(text.substring(i, Math.min(text.length(), i + 20)));
        }
        int before = oracle.count(1);
        isRight = isRight && end(text.length())
                && ask("formula() of '" + text + "'", () -> shop.formula(), () -> oracle.formula())
                && ask("fault()", () -> shop.fault(), () -> oracle.fault());
        if (oracle.count(1) > before) {
            told.add(text);
        }
        return isRight;
    }

    private boolean things(int n) {
        return ask("things(" + n + ")", () -> { shop.things(n); return 0; }, () -> { oracle.things(n); return 0; });
    }

    // ---- arguments: there is mostly such a one

    private int index(int count) {
        int kind = random.nextInt(60);
        if (kind == 0) {
            return -1 - random.nextInt(2);
        }
        if (kind == 1 || count == 0) {
            return count + random.nextInt(2);
        }
        if (kind == 2) {
            return random.nextInt();
        }
        return random.nextInt(count);
    }

    private int formula() {
        return index(oracle.count(1));
    }

    private int house() {
        return index(3);
    }

    private int customer() {
        return index(4);
    }

    private int anyLine() {
        return index(oracle.count(2));
    }

    private int law() {
        return random.nextInt(30) == 0 ? random.nextInt(80) - 40 : random.nextInt(32);
    }

    private boolean step() {
        int kind = random.nextInt(100);
        if (kind < 6) {
            return tell();
        }
        if (kind < 20) {
            return line();
        }
        if (kind < 28) {
            return believe();
        }
        if (kind < 34) {
            return setHouse();
        }
        if (kind < 55) {
            return askProof();
        }
        if (kind < 70) {
            return askWorlds();
        }
        if (kind < 82) {
            return askLine();
        }
        if (kind < 97) {
            return receipt();
        }
        return rest();
    }

    private boolean believe() {
        int c = random.nextInt(3) > 0 ? random.nextInt(2) : customer();
        int f = formula();
        boolean is = random.nextInt(3) > 0;
        return ask("believe(" + c + ", " + f + ", " + is + ")",
                () -> bit(shop.believe(c, f, is)), () -> bit(oracle.believe(c, f, is)))
                && ask("beliefs(" + c + ")", () -> shop.beliefs(c), () -> oracle.beliefs(c));
    }

    private boolean setHouse() {
        int h = house();
        if (random.nextInt(3) == 0) {
            int kind = random.nextInt(12);
            int bits = kind == 0 ? random.nextInt() : kind < 4 ? random.nextInt(65536) | 1155
                    : kind < 8 ? 65535 & ~(1 << random.nextInt(16)) : 65535;
            return ask("rules(" + h + ", " + bits + ")", () -> shop.rules(h, bits), () -> oracle.rules(h, bits));
        }
        int rule = random.nextInt(4) == 0 ? 16 : index(17);
        int n = random.nextInt(20) == 0 ? random.nextInt(140) - 20 : rule == 16 ? random.nextInt(10)
                : random.nextInt(3) == 0 ? 0 : random.nextInt(100);
        return ask("price(" + h + ", " + rule + ", " + n + ")", () -> shop.price(h, rule, n), () -> oracle.price(h, rule, n));
    }

    private boolean line() {
        int h = house();
        int f = formula();
        int rule = index(16);
        int a = premise(rule == 0);
        int b = random.nextInt(10) < 6 ? premise(false) : -1;
        int c = random.nextInt(10) < 2 ? premise(false) : -1;
        if (rule == 0) {
            a = customer();
            b = random.nextInt(20) > 0 ? -1 : b;
            c = random.nextInt(20) > 0 ? -1 : c;
        }
        // Most lines that are drawn at random are wrong, so some tries look for one that is honest.
        for (int i = 0; i < 300 && random.nextInt(6) > 0; i++) {
            int[] t = honestTry();
            if (t != null) {
                return line(t[0], t[1], t[2], t[3], t[4], t[5]);
            }
        }
        return line(h, f, rule, a, b, c);
    }

    private int premise(boolean isCustomer) {
        return isCustomer ? customer() : random.nextInt(12) == 0 ? -1 : anyLine();
    }

    private int[] honestTry() {
        int lines = oracle.count(2);
        int formulas = oracle.count(1);
        if (lines == 0 || formulas == 0) {
            return null;
        }
        for (int i = 0; i < 60; i++) {
            int rule = random.nextInt(16);
            int h = random.nextInt(3);
            int f = random.nextInt(formulas);
            int[] asked = {1, 0, 2, 1, 1, 1, 1, 2, 1, 3, 2, 1, oracle.s.things, 1, 2, 1};
            int[] p = {-1, -1, -1};
            for (int k = 0; k < asked[rule]; k++) {
                p[k] = rule == 0 ? random.nextInt(4) : random.nextInt(lines);
            }
            boolean isDull = rule == 1 && random.nextInt(4) > 0 || rule == 15 && random.nextInt(2) > 0;
            if (!isDull && oracle.honest(new Oracle.Line(h, f, rule, p))) {
                return new int[] {h, f, rule, p[0], p[1], p[2]};
            }
        }
        return null;
    }

    private boolean line(int h, int f, int rule, int a, int b, int c) {
        boolean isRight = ask("line(" + h + ", " + f + ", " + rule + ", " + a + ", " + b + ", " + c + ")",
                () -> shop.line(h, f, rule, a, b, c), () -> oracle.line(h, f, rule, a, b, c));
        int last = oracle.count(2) - 1;
        return isRight && (last < 0 || askIs(last, 0));
    }

    private boolean askIs(int l, int what) {
        return ask("is(" + l + ", " + what + ")", () -> bit(shop.is(l, what)), () -> bit(oracle.is(l, what)));
    }

    private boolean askProof() {
        int h = house();
        int c = customer();
        int f = formula();
        switch (random.nextInt(6)) {
            case 0: return ask("lastly(" + h + ", " + c + ", " + f + ")", () -> shop.lastly(h, c, f), () -> oracle.lastly(h, c, f));
            case 1: return ask("where(" + c + ", " + f + ")", () -> shop.where(c, f), () -> oracle.where(c, f));
            case 2: return ask("resold(" + h + ", " + c + ", " + f + ")", () -> shop.resold(h, c, f), () -> oracle.resold(h, c, f));
            case 3: return ask("forward(" + h + ", " + c + ", " + f + ")", () -> shop.forward(h, c, f), () -> oracle.forward(h, c, f));
            default:
                return ask("cheapest(" + h + ", " + c + ", " + f + ")", () -> shop.cheapest(h, c, f), () -> oracle.cheapest(h, c, f));
        }
    }

    private boolean askWorlds() {
        int c = customer();
        int d = customer();
        int f = formula();
        int g = formula();
        int w = random.nextInt(20) == 0 ? random.nextInt(3000) - 500 : random.nextInt(16 << 2 * oracle.s.things);
        int set = random.nextInt(6) == 0 ? random.nextInt() : random.nextInt() & random.nextInt();
        switch (random.nextInt(13)) {
            case 0: return ask("signs(" + f + ")", () -> shop.signs(f), () -> oracle.signs(f));
            case 1: return ask("same(" + f + ", " + g + ")", () -> bit(shop.same(f, g)), () -> bit(oracle.same(f, g)));
            case 2: return ask("holds(" + f + ", " + w + ")", () -> bit(shop.holds(f, w)), () -> bit(oracle.holds(f, w)));
            case 3: return ask("worlds(" + f + ")", () -> shop.worlds(f), () -> oracle.worlds(f));
            case 4: return ask("follows(" + c + ", " + f + ")", () -> bit(shop.follows(c, f)), () -> bit(oracle.follows(c, f)));
            case 5: return ask("counter(" + c + ", " + f + ")", () -> shop.counter(c, f), () -> oracle.counter(c, f));
            case 6: return ask("truths(" + w + ")", () -> shop.truths(w), () -> oracle.truths(w));
            case 7: return ask("agree(" + c + ", " + d + ")", () -> shop.agree(c, d), () -> oracle.agree(c, d));
            case 8: return ask("withdraw(" + set + ")", () -> shop.withdraw(set), () -> oracle.withdraw(set));
            case 9: return ask("idle(" + c + ")", () -> shop.idle(c), () -> oracle.idle(c));
            case 10: return ask("alike(" + f + ")", () -> shop.alike(f), () -> oracle.alike(f));
            case 11: return ask("core(" + set + ")", () -> shop.core(set), () -> oracle.core(set));
            default: return ask("more(" + c + ", " + f + ")", () -> shop.more(c, f), () -> oracle.more(c, f));
        }
    }

    private boolean askLine() {
        int l = anyLine();
        int c = customer();
        int f = formula();
        int what = index(7);
        int which = index(5);
        switch (random.nextInt(11)) {
            case 0: return ask("look(" + l + ", " + what + ")", () -> shop.look(l, what), () -> oracle.look(l, what));
            case 1: return ask("wrong()", () -> shop.wrong(), () -> oracle.wrong());
            case 2: return ask("rests(" + l + ")", () -> shop.rests(l), () -> oracle.rests(l));
            case 3: return ask("needs(" + l + ")", () -> shop.needs(l), () -> oracle.needs(l));
            case 4: return ask("spent(" + l + ")", () -> shop.spent(l), () -> oracle.spent(l));
            case 5: return ask("chain(" + l + ")", () -> shop.chain(l), () -> oracle.chain(l));
            case 6: case 7: return ask("falls(" + c + ", " + f + ")", () -> shop.falls(c, f), () -> oracle.falls(c, f));
            default: return askIs(l, which);
        }
    }

    private boolean receipt() {
        int h = house();
        int law = law();
        int l = anyLine();
        int buyer = random.nextInt(20) == 0 ? random.nextInt(12) - 3 : random.nextInt(7);
        int coins = random.nextInt(30) == 0 ? random.nextInt(30000) - 9999 : random.nextInt(random.nextBoolean() ? 10000 : 100);
        int day = random.nextInt(30) == 0 ? random.nextInt(30000) - 9999 : random.nextInt(4);
        int r = index(oracle.count(3));
        switch (random.nextInt(14)) {
            case 0: return random.nextInt(3) > 0 || ask("undo(" + r + ")", () -> bit(shop.undo(r)), () -> bit(oracle.undo(r)));
            case 1: case 2: return ask("refunds(" + law + ")", () -> shop.refunds(law), () -> oracle.refunds(law));
            case 3: case 4:
                int to = random.nextBoolean() ? -1 : buyer;
                return ask("owes(" + h + ", " + to + ", " + law + ")", () -> shop.owes(h, to, law), () -> oracle.owes(h, to, law));
            case 5: case 6: return ask("gains(" + h + ", " + law + ")", () -> shop.gains(h, law), () -> oracle.gains(h, law));
            case 7: return ask("dearer()", () -> shop.dearer(), () -> oracle.dearer());
            case 8: case 9:
                int what = random.nextInt(9) - 1;
                return ask("count(" + what + ")", () -> shop.count(what), () -> oracle.count(what));
            default:
                return ask("sell(" + l + ", " + buyer + ", " + coins + ", " + day + ")",
                        () -> shop.sell(l, buyer, coins, day), () -> oracle.sell(l, buyer, coins, day));
        }
    }

    private boolean rest() {
        switch (random.nextInt(8)) {
            case 0: return feed(spoilt("p&q"));
            case 1: return end(random.nextInt(50) - 5);
            case 2: return things(random.nextInt(5));
            case 3: return ask("formula()", () -> shop.formula(), () -> oracle.formula())
                    && ask("fault()", () -> shop.fault(), () -> oracle.fault());
            case 4: case 5: return ask("image()", () -> { shop.image(); return 0; }, () -> { oracle.image(); return 0; });
            default: return random.nextInt(3) > 0 || ask("back()", () -> bit(shop.back()), () -> bit(oracle.back()));
        }
    }
}
