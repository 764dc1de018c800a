/** Promises 1 to 8: the tape, and the formulas told on it. */
public final class ReadingTest {
    private static final Due due = new Due();

    public static void main(String[] args) {
        newObject();
        feed();
        end();
        rightTexts();
        wrongTexts();
        manySigns();
        deepTexts();
        formula();
        fault();
        things();
        signs();
        same();
        due.close("ReadingTest");
    }

    private static void newObject() {
        ProofShop shop = new ProofShop();
        due.is("NONE", -1, ProofShop.NONE);
        due.is("D", 2, shop.count(0));
        for (int what = 1; what <= 6; what++) {
            due.is("new count " + what, 0, shop.count(what));
        }
        due.is("new fault", -1, shop.fault());
        due.is("new back", false, shop.back());
        due.is("new wrong", -1, shop.wrong());
        due.is("new dearer", 0, shop.dearer());
        due.is("new refunds", 0, shop.refunds(31));
        for (int customer = 0; customer < 4; customer++) {
            due.is("new beliefs", 0, shop.beliefs(customer));
        }
        for (int house = 0; house < 3; house++) {
            due.is("new rules", 65535, shop.rules(house, 65535));
            for (int rule = 0; rule <= 16; rule++) {
                due.is("new price", rule == 16 ? 1 : 10, shop.price(house, rule, 0));
            }
        }
    }

    private static void feed() {
        ProofShop shop = new ProofShop();
        for (int i = 1; i <= 20; i++) {
            due.is("feed " + i, 20 * i, shop.feed(0x20202020, 0x20202020, 0x20202020, 0x20202020, 0x20202020));
        }
        due.is("feed beyond 400", -1, shop.feed(0, 0, 0, 0, 0));
        due.is("none came", false, shop.end(401));
        due.is("end 381", true, shop.end(381));
        due.is("feed beyond 400 from 381", -1, shop.feed(0, 0, 0, 0, 0));
        due.is("end 380", true, shop.end(380));
        due.is("feed to 400", 400, shop.feed('p' << 24 | 0x202020, 0x20202020, 0x20202020, 0x20202020, 0x20202020));
        due.is("400 bytes with one p", 0, shop.formula());
        due.is("tape is used up", 20, shop.feed('p' << 24 | '&' << 16 | 'q' << 8 | '|', 'r' << 24 | ' ' << 16 | '>' << 8 | 's',
                0x20202020, 0x20202020, 0x20202020));
        due.is("highest byte first", 1, shop.formula());
        due.is("signs", 7, shop.signs(1));
    }

    private static void end() {
        ProofShop shop = new ProofShop();
        due.is("end 0 of an empty tape", true, shop.end(0));
        due.is("end 1 of an empty tape", false, shop.end(1));
        shop.feed('p' << 24 | '&' << 16 | 'q' << 8 | '&', 0, 0, 0, 0);
        due.is("end -1", false, shop.end(-1));
        due.is("end least", false, shop.end(Integer.MIN_VALUE));
        due.is("end 21", false, shop.end(21));
        due.is("end 20", true, shop.end(20));
        due.is("end 3", true, shop.end(3));
        due.is("end 4 then", false, shop.end(4));
        due.is("p&q", 0, shop.formula());
        due.is("p&q signs", 3, shop.signs(0));
        due.is("tape behind", false, shop.end(1));
    }

    private static void rightTexts() {
        due.isRight(2, "p", 1);
        due.isRight(2, "  q  ", 1);
        due.isRight(2, "-r", 2);
        due.isRight(2, "- - s", 3);
        due.isRight(2, "f0&g1", 3);
        due.isRight(3, "f2|g2", 3);
        due.isRight(1, "f0", 1);
        due.isRight(2, "all fx", 2);
        due.isRight(2, "all(fx)", 2);
        due.isRight(2, "some-gx", 3);
        due.isRight(2, "all p", 2);
        due.isRight(2, "all(fx>f1)&some gx", 7);
        due.isRight(2, "all fx > some gx", 5);
        due.isRight(2, "p>q>r", 5);
        due.isRight(2, "-(p|q)&(r)", 6);
        due.isRight(2, "p&-all fx", 5);
    }

    private static void wrongTexts() {
        due.faultAt(2, "", 0);
        due.faultAt(2, "   ", 3);
        due.faultAt(2, "t", 0);
        due.faultAt(2, "pq", 0);
        due.faultAt(2, " x", 1);
        due.faultAt(2, "p q", 2);
        due.faultAt(2, "p0", 1);
        due.faultAt(2, "P", 0);
        due.faultAt(2, "p\t", 1);
        due.faultAt(2, "p" + (char) 0, 1);
        due.faultAt(2, "" + (char) 255, 0);
        due.faultAt(2, "p&" + (char) 240, 2);
        due.faultAt(2, "f", 0);
        due.faultAt(2, "p & g", 4);
        due.faultAt(2, "f 0", 0);
        due.faultAt(2, "f x", 0);
        due.faultAt(2, "f-", 0);
        due.faultAt(2, "f2", 1);
        due.faultAt(3, "f3", 1);
        due.faultAt(1, "f1", 1);
        due.faultAt(2, "g9", 1);
        due.faultAt(2, "f01", 2);
        due.faultAt(2, "f0x", 2);
        due.faultAt(2, "f0p", 2);
        due.faultAt(2, "fx", 0);
        due.faultAt(2, "all fx0", 6);
        due.faultAt(2, "all fxx", 4);
        due.faultAt(2, "all fx & gx", 9);
        due.faultAt(2, "all (fx & gx) | fx", 16);
        due.faultAt(2, "allfx", 0);
        due.faultAt(2, "al fx", 0);
        due.faultAt(2, "all", 3);
        due.faultAt(2, "some ", 5);
        due.faultAt(2, "all0", 3);
        due.faultAt(2, "all all fx", 4);
        due.faultAt(2, "all (p & some fx)", 9);
        due.faultAt(2, "some -all fx", 6);
        due.faultAt(2, "p &", 3);
        due.faultAt(2, "p & ", 4);
        due.faultAt(2, "p && q", 3);
        due.faultAt(2, "p & | q", 4);
        due.faultAt(2, "& p", 0);
        due.faultAt(2, "> p", 0);
        due.faultAt(2, "p >", 3);
        due.faultAt(2, "p > > q", 4);
        due.faultAt(2, "-", 1);
        due.faultAt(2, "- )", 2);
        due.faultAt(2, "(p", 2);
        due.faultAt(2, "(p ", 3);
        due.faultAt(2, "(", 1);
        due.faultAt(2, "()", 1);
        due.faultAt(2, "(p q)", 3);
        due.faultAt(2, "p)", 1);
        due.faultAt(2, "(p))", 3);
        due.faultAt(2, "p (q)", 2);
        due.faultAt(2, "p - q", 2);
        due.faultAt(2, "p all fx", 2);
        due.faultAt(2, "7", 0);
    }

    private static String row(int atoms, String sign) {
        StringBuilder text = new StringBuilder("p");
        for (int i = 1; i < atoms; i++) {
            text.append(sign).append('p');
        }
        return text.toString();
    }

    private static void manySigns() {
        due.isRight(2, row(20, "&"), 39);
        due.isRight(2, "-" + row(20, "|"), 40);
        due.faultAt(2, row(21, "|"), 40);
        due.faultAt(2, "--" + row(20, "&"), 40);
        due.faultAt(2, "-" + row(20, "&") + "&p", 40);
        due.faultAt(2, "-" + row(20, "&") + ">p", 40);
        due.faultAt(2, row(20, "&") + "&", 40);
        due.faultAt(2, row(20, "&") + "&-", 40);
        due.faultAt(2, row(20, "&") + "&f7", 40);
        due.faultAt(2, row(20, "&") + "& all fx", 41);
        due.faultAt(2, row(20, "&") + "&((", 42);
        due.faultAt(2, row(20, "&") + "&((p))", 42);
        due.faultAt(2, row(19, "&") + "&f2", 39);
        due.isRight(2, row(18, "&") + "& all(fx)", 38);
        due.isRight(2, "(" + row(19, "|") + ")&((((((p))))))", 39);
    }

    private static void deepTexts() {
        due.isRight(2, "--------p", 9);
        due.faultAt(2, "---------p", 8);
        due.isRight(2, "((((((((p))))))))", 1);
        due.faultAt(2, "(((((((((p)))))))))", 8);
        due.isRight(2, "p>p>p>p>p>p>p>p>p", 17);
        due.faultAt(2, "p>p>p>p>p>p>p>p>p>p", 17);
        due.isRight(2, "-(-(-(all(fx))))", 5);
        due.isRight(2, "-(-(-(all fx)))", 5);
        due.faultAt(2, "-(-(-(-(all fx))))", 8);
        due.faultAt(2, "-(-(-(-( some fx))))", 9);
        due.faultAt(2, "-(-(-(-(p > q))))", 10);
        due.isRight(2, "-(-(-(-p > q)))", 7);
        due.isRight(2, "p>(p>(p>(p>p)))", 9);
        due.isRight(2, "((((p>p)>p)>p)>p)", 9);
        due.isRight(2, "p>p>p>p>p>p>p>p>p&p|p", 21);
        due.faultAt(2, "p>p>p>p>p>p>p>p>-p", 16);
        due.faultAt(2, "p>p>p>p>p>p>p>p>(p)", 16);
        // What stands behind > is within it, so eight more are one too many.
        due.faultAt(2, "--------p>--------p", 17);
        due.isRight(2, "--------p>-------p", 18);
    }

    private static void formula() {
        ProofShop shop = new ProofShop();
        for (int i = 0; i < 30; i++) {
            due.is("formula " + i, i, Due.tell(shop, i % 2 == 0 ? "p" : "all fx"));
        }
        Due.tape(shop, "p&");
        due.fails("wrong text and 30", Due.ARGUMENT, () -> shop.formula());
        due.is("fault of it", 2, shop.fault());
        Due.tape(shop, "p&q");
        due.fails("right text and 30", Due.UNSUPPORTED, () -> shop.formula());
        due.is("its fault", -1, shop.fault());
        due.is("tape used up", 20, shop.feed(0, 0, 0, 0, 0));
        due.is("still 30", 30, shop.count(1));
        due.is("same still", true, shop.same(1, 29));
    }

    private static void fault() {
        ProofShop shop = new ProofShop();
        Due.tape(shop, "p|");
        due.is("ahead of reading", -1, shop.fault());
        due.fails("p|", Due.ARGUMENT, () -> shop.formula());
        due.is("fault", 2, shop.fault());
        due.is("fault again", 2, shop.fault());
        Due.tape(shop, "p");
        due.is("fault stays till the next text", 2, shop.fault());
        shop.formula();
        due.is("without one", -1, shop.fault());
    }

    private static void things() {
        ProofShop shop = new ProofShop();
        due.fails("things 0", Due.ARGUMENT, () -> { shop.things(0); return 0; });
        due.fails("things 4", Due.ARGUMENT, () -> { shop.things(4); return 0; });
        due.fails("things -1", Due.ARGUMENT, () -> { shop.things(-1); return 0; });
        due.is("D", 2, shop.count(0));
        shop.things(3);
        due.is("D 3", 3, shop.count(0));
        shop.things(1);
        due.is("D 1", 1, shop.count(0));
        Due.tell(shop, "f0");
        due.fails("things with formulas", Due.STATE, () -> { shop.things(1); return 0; });
        due.fails("things 4 with formulas", Due.ARGUMENT, () -> { shop.things(4); return 0; });
        due.is("worlds of one thing", 32, shop.worlds(0));
    }

    private static void signs() {
        ProofShop shop = Due.shop("( p & q ) | - r", "all (fx > g0 | p)");
        due.is("signs", 6, shop.signs(0));
        due.is("signs of all", 6, shop.signs(1));
        due.fails("signs 2", Due.INDEX, () -> shop.signs(2));
        due.fails("signs -1", Due.INDEX, () -> shop.signs(-1));
    }

    private static void isSame(boolean want, String first, String second) {
        ProofShop shop = Due.shop(first, second);
        due.is(first + " and " + second, want, shop.same(0, 1));
        due.is(second + " and " + first, want, shop.same(1, 0));
        due.is(first, true, shop.same(0, 0));
    }

    private static void same() {
        isSame(true, "p&q&r", "( p & q ) & r");
        isSame(false, "p&q&r", "p&(q&r)");
        isSame(true, "p|q|r", "((p)|q)|r");
        isSame(false, "p|q|r", "p|(q|r)");
        isSame(true, "p>q>r", "p>(q>r)");
        isSame(false, "p>q>r", "(p>q)>r");
        isSame(true, "p|q&r", "p|(q&r)");
        isSame(false, "p|q&r", "(p|q)&r");
        isSame(true, "-p&q", "(-p)&q");
        isSame(false, "-p&q", "-(p&q)");
        isSame(true, "all fx & p", "(all(fx))&p");
        isSame(false, "all fx & p", "all(fx & p)");
        isSame(false, "all fx", "some fx");
        isSame(false, "all fx", "all gx");
        isSame(false, "f0", "f1");
        isSame(false, "f0", "g0");
        isSame(false, "p", "- - p");
        isSame(false, "p & q", "q & p");
        isSame(false, "all f0", "all f1");
        isSame(false, "p & q", "p | q");
        ProofShop shop = Due.shop("p");
        due.fails("same 0 1", Due.INDEX, () -> shop.same(0, 1) ? 1 : 0);
        due.fails("same 1 0", Due.INDEX, () -> shop.same(1, 0) ? 1 : 0);
        due.fails("same -1 0", Due.INDEX, () -> shop.same(-1, 0) ? 1 : 0);
    }
}
