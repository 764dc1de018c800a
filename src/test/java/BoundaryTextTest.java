/** Edges of the tape and of the texts on it, a test for each sentence: promises 2 to 5. */
public final class BoundaryTextTest {
    private static final Due due = new Due();
    private static final int NONE = ProofShop.NONE;
    private static final int BLANKS = 0x20202020;
    private static final int RIGHT = -1;

    public static void main(String[] args) {
        thingsInTexts();
        grammar();
        lettersAlone();
        behindForG();
        xWithin();
        notWithinOneAnother();
        eightDeep();
        sideBySide();
        rowsFromTheLeft();
        fortySigns();
        signOfEachKind();
        wordsGoOn();
        wordsButOneLetter();
        blanks();
        firstWrongByte();
        wrongWords();
        wrongDigits();
        ninthDeep();
        fortyFirstSign();
        moreMustCome();
        same();
        feedHighestFirst();
        feedTooMany();
        end();
        endRefused();
        formulaUsesTape();
        formulaAgain();
        formulaWrong();
        formulaFull();
        thirtyOfForty();
        fault();
        due.close("BoundaryTextTest");
    }

    /** A text is right (RIGHT), or its first wrong byte is at a place. */
    private static void reads(int things, String text, int place) {
        if (place == RIGHT) {
            ProofShop shop = Due.shopOf(things);
            Due.tape(shop, text);
            boolean isRight = true;
            try {
                shop.formula();
            } catch (IllegalArgumentException e) {
                isRight = false;
            }
            due.is("'" + text + "' is right, fault " + shop.fault(), true, isRight);
            due.is("fault of '" + text + "'", NONE, shop.fault());
            due.is("formulas of '" + text + "'", 1, shop.count(1));
        } else {
            due.faultAt(things, text, place);
        }
    }

    private static String row(int atoms, String sign) {
        return "p" + (sign + "p").repeat(atoms - 1);
    }

    private static boolean isLetter(int b) {
        return b >= 'a' && b <= 'z';
    }

    private static void thingsInTexts() {
        due.term("THINGS: 0 to D less 1 (D 1 to 3; 2 at first).");
        for (int things = 1; things <= 3; things++) {
            for (int digit = 0; digit <= 9; digit++) {
                reads(things, "f" + digit, digit < things ? RIGHT : 1);
                reads(things, "g" + digit, digit < things ? RIGHT : 1);
                reads(things, "all f" + digit, digit < things ? RIGHT : 5);
            }
        }
        ProofShop shop = new ProofShop();
        due.is("THING 1 at first", 0, Due.tell(shop, "f1"));
        Due.tape(shop, "f2");
        due.fails("THING 2 at first", Due.ARGUMENT, () -> shop.formula());
    }

    private static void grammar() {
        due.term("are told in texts: F: OR [ > F ]; OR: AND { | AND }; AND: UNIT { & UNIT }; UNIT: - UNIT | ( F ) | all UNIT | some UNIT | ATOM.");
        String[] alike = {"p>q>r", "p>(q>r)", "p|q>r", "(p|q)>r", "p>q|r", "p>(q|r)", "p&q|r", "(p&q)|r", "p|q&r", "p|(q&r)",
            "-p&q", "(-p)&q", "-p>q", "(-p)>q", "all fx|p", "(all fx)|p", "some -fx&p", "(some(-fx))&p", "-all fx>p", "(-(all fx))>p"};
        for (int i = 0; i < alike.length; i += 2) {
            isSame(true, alike[i], alike[i + 1]);
        }
        for (String none : new String[] {"p>", "p|", "p&", "-", "(", "all", "some"}) {
            reads(2, none, none.length());
        }
        for (String none : new String[] {">p", "|p", "&p", ")p", ")"}) {
            reads(2, none, 0);
        }
        reads(2, "p>p", RIGHT);
        reads(2, "p|p|p|p", RIGHT);
        reads(2, "p&p&p&p", RIGHT);
    }

    private static void lettersAlone() {
        due.term("ATOM: p, q, r, s (letters that stand alone)");
        for (int b = 0; b < 256; b++) {
            boolean isAtom = b >= 'p' && b <= 's';
            boolean asksMore = b == ' ' || b == '-' || b == '(';
            reads(2, "" + (char) b, isAtom ? RIGHT : asksMore ? 1 : 0);
        }
        for (String word : new String[] {"pp", "pq", "sr", "px", "sf", "pf0", "ps", "qall", "rsome"}) {
            reads(2, word, 0);
        }
    }

    private static void behindForG() {
        due.term("f or g, and right behind it x, or one digit, a THING.");
        for (int b = 0; b < 256; b++) {
            boolean isDigit = b >= '0' && b <= '9';
            int lone = isDigit ? b <= '2' ? RIGHT : 1 : 0;
            int within = b == 'x' || isDigit && b <= '2' ? RIGHT : isDigit ? 5 : 4;
            reads(3, "f" + (char) b, lone);
            reads(3, "g" + (char) b, lone);
            reads(3, "all f" + (char) b, within);
            reads(3, "all g" + (char) b, within);
        }
        reads(2, "f00", 2);
        reads(2, "g1 1", 3);
        reads(2, "f0f1", 2);
        reads(2, "f", 0);
        reads(2, "all g", 4);
    }

    private static void xWithin() {
        due.term("x only within all or some;");
        reads(2, "all fx", RIGHT);
        reads(2, "some gx", RIGHT);
        reads(2, "all(p&-(fx>(gx)))", RIGHT);
        reads(2, "fx", 0);
        reads(2, "-gx", 1);
        reads(2, "(fx)", 1);
        reads(2, "all p&fx", 6);
        reads(2, "all(fx)|gx", 8);
        reads(2, "some fx>fx", 8);
        reads(2, "fx&all fx", 0);
        reads(2, "p>some p&gx", 9);
        reads(2, "all x", 4);
        reads(2, "all(x)", 4);
    }

    private static void notWithinOneAnother() {
        due.term("these not within one another.");
        reads(2, "all all fx", 4);
        reads(2, "all some fx", 4);
        reads(2, "some all fx", 5);
        reads(2, "some some fx", 5);
        reads(2, "all(all p)", 4);
        reads(2, "all -some p", 5);
        reads(2, "all(p>some p)", 6);
        reads(2, "some(fx&p|all gx)", 10);
        reads(2, "all fx&all fx", RIGHT);
        reads(2, "all(fx)>some(gx)", RIGHT);
        reads(2, "(all(fx))|-some -gx", RIGHT);
    }

    /** Opens one within another; > may stand at the begin, behind ( and behind >. */
    private static void nest(String begin, String close, int left, char last, boolean isBound) {
        if (left == 0) {
            reads(2, begin + "p" + close, RIGHT);
            reads(2, begin + "-p" + close, begin.length());
            reads(2, begin + "(p)" + close, begin.length());
            reads(2, begin + "all p" + close, begin.length());
            reads(2, begin + "some p" + close, begin.length());
            if (last != '-' && last != 'a') {
                reads(2, begin + "p>p" + close, begin.length() + 1);
            }
            return;
        }
        nest(begin + "-", close, left - 1, '-', isBound);
        nest(begin + "(", ")" + close, left - 1, '(', isBound);
        if (last != '-' && last != 'a') {
            nest(begin + "p>", close, left - 1, '>', isBound);
        }
        if (!isBound) {
            nest(begin + (left % 2 == 0 ? "all " : "some "), close, left - 1, 'a', true);
        }
    }

    private static void eightDeep() {
        due.term("- and ( and all and some and > within one another at most 8 deep, together");
        // All ways of the innermost four, behind each of these.
        nest("----", "", 4, '-', false);
        nest("((((", "))))", 4, '(', false);
        nest("p>p>p>p>", "", 4, '>', false);
        nest("all -(-", ")", 4, '-', true);
        nest("-(some(", "))", 4, '(', true);
        nest("p>-(p>", ")", 4, '>', false);
    }

    private static void sideBySide() {
        due.term("(of > what stands behind it is within).");
        String eight = "--------p";
        reads(2, eight + ">p", RIGHT);
        reads(2, eight + ">-------p", RIGHT);
        reads(2, eight + ">" + eight, 17);
        reads(2, "p>" + eight, 9);
        reads(2, "((((((((p))))))))>p", RIGHT);
        reads(2, "((((((((p))))))))>((((((((p))))))))", 25);
        reads(2, "(((((((p>p)))))))>p", RIGHT);
        reads(2, "p>p>p>p>p>p>p>p>p", RIGHT);
        reads(2, "p>p>p>p>p>p>p>p>p>p", 17);
        reads(2, "(((((((p>p)>p)>p)>p)>p)>p)>p)>p", RIGHT);
        reads(2, eight + "&" + eight + "|" + eight, RIGHT);
    }

    private static void isSame(boolean want, String first, String second) {
        ProofShop shop = Due.shop(first, second);
        due.is("'" + first + "' and '" + second + "'", want, shop.same(0, 1));
        due.is("'" + second + "' and '" + first + "'", want, shop.same(1, 0));
    }

    private static void rowsFromTheLeft() {
        due.term("A row of | (or &) is taken from the left: p & q & r is ( p & q ) & r.");
        isSame(true, "p & q & r", "( p & q ) & r");
        isSame(false, "p & q & r", "p & ( q & r )");
        isSame(true, "p | q | r", "( p | q ) | r");
        isSame(false, "p | q | r", "p | ( q | r )");
        isSame(true, row(20, "&"), "((((((((p&p)&p)&p)&p)&p)&p)&p)&p)" + "&p".repeat(11));
        isSame(true, row(20, "|"), "((((((((p|p)|p)|p)|p)|p)|p)|p)|p)" + "|p".repeat(11));
        isSame(false, row(20, "|"), row(18, "|") + "|(p|p)");
    }

    private static void hasSigns(int signs, String text) {
        due.isRight(2, text, signs);
    }

    private static void fortySigns() {
        due.term("A FORMULA has at most 40 SIGNS:");
        hasSigns(1, "p");
        hasSigns(39, row(20, "&"));
        hasSigns(40, "-" + row(20, "&"));
        hasSigns(40, "all " + row(20, "|"));
        hasSigns(40, "some(" + row(20, "|") + ")");
        hasSigns(40, "-(((((((" + row(20, "&") + ")))))))");
        hasSigns(40, row(19, "|") + ">-p");
        reads(2, row(21, "&"), 40);
        reads(2, "--" + row(20, "&"), 40);
    }

    private static void signOfEachKind() {
        due.term("ATOMS, -, &, |, >, all, some, each of these one.");
        hasSigns(1, "(((((((( q ))))))))");
        hasSigns(1, "f1");
        hasSigns(2, "-q");
        hasSigns(3, "p&q");
        hasSigns(3, "p|q");
        hasSigns(3, "p>q");
        hasSigns(2, "all fx");
        hasSigns(2, "some p");
        hasSigns(12, "all(-fx&g0|p)>some gx&s");
    }

    private static void wordsGoOn() {
        due.term("Words are as long as a to z go on;");
        for (String word : new String[] {"allp", "allfx", "alll", "alls", "al", "somep", "som", "somes", "pall", "xall", "ap", "zp"}) {
            reads(2, word, 0);
            reads(2, "p & " + word + " fx", 4);
        }
        reads(2, "all fxp", 4);
        reads(2, "all fxall", 4);
        reads(2, "all gxx", 4);
        reads(2, "all(p)", RIGHT);
        reads(2, "all-p", RIGHT);
        reads(2, "some(p)&all-p", RIGHT);
        reads(2, "some f0&p", RIGHT);
        reads(2, "all" + (char) ('a' - 1), 3);
        reads(2, "all" + (char) ('z' + 1), 3);
        reads(2, "p" + (char) ('a' - 1), 1);
        reads(2, "p" + (char) ('z' + 1), 1);
        reads(2, "pA", 1);
        reads(2, "aLL p", 0);
        reads(2, "All p", 0);
    }

    /** Each letter of each word that is one in place of each of the others. */
    private static void wordsButOneLetter() {
        due.term("(a word that is none,");
        for (String word : new String[] {"all", "some", "fx", "gx"}) {
            for (int at = 0; at < word.length(); at++) {
                for (char letter = 'a'; letter <= 'z'; letter++) {
                    String other = word.substring(0, at) + letter + word.substring(at + 1);
                    boolean isWord = other.equals("all") || other.equals("some") || other.equals("fx") || other.equals("gx");
                    boolean isAtom = word.length() == 2;
                    String text = isAtom ? "all " + other : other + " p";
                    reads(2, text, isWord ? RIGHT : isAtom ? 4 : 0);
                }
            }
        }
    }

    private static void blanks() {
        due.term("between all there may be blanks (32), also ahead and behind.");
        hasSigns(9, "  all  (  fx  >  g0  )  &  -  p  |  q  ");
        hasSigns(1, "p" + " ".repeat(399));
        hasSigns(1, " ".repeat(399) + "p");
        hasSigns(3, "p" + " ".repeat(397) + "&q");
        for (int b = 0; b < 256; b++) {
            boolean asksMore = b == '&' || b == '|' || b == '>';
            int behind = b == ' ' ? RIGHT : isLetter(b) ? 0 : asksMore ? 2 : 1;
            reads(2, "p" + (char) b, behind);
            boolean goesOn = b == ' ' || b == '-' || b == '(';
            reads(2, "" + (char) b + "p", b == ' ' || b == '-' ? RIGHT : goesOn ? 2 : 0);
        }
        reads(2, "f 1", 0);
        reads(2, "a ll p", 0);
        reads(2, "all f x", 4);
    }

    private static void firstWrongByte() {
        due.term("The first wrong byte: the begin of the first thing that cannot stand there");
        reads(2, "t & (", 0);
        reads(2, "p q )", 2);
        reads(2, "p & ) & t", 4);
        reads(2, "p & & f2 & fx", 4);
        reads(2, "(p & f2 & fx", 6);
        reads(2, ")", 0);
        reads(2, "()", 1);
        reads(2, "(p))", 3);
        reads(2, "p-q", 1);
        reads(2, "p(q)", 1);
        reads(2, "(p)q", 3);
        reads(2, "(p)(q)", 3);
        reads(2, "p all p", 2);
        reads(2, "-&p", 1);
        reads(2, "all&p", 3);
        reads(2, "all)", 3);
        reads(2, "p>|q", 2);
        reads(2, "p&>q", 2);
        reads(2, "p|&q", 2);
        reads(2, "|p", 0);
        reads(2, "1", 0);
        reads(2, "p" + " ".repeat(398) + "p", 399);
    }

    private static void wrongWords() {
        due.term("(a word that is none, f or g without x or a digit right behind it, x out of all and some, an all or some within one of these;");
        reads(2, "  pq", 2);
        reads(2, "p & tall", 4);
        reads(2, "p &  f & q", 5);
        reads(2, "p & g", 4);
        reads(2, "p | g 1", 4);
        reads(2, "p |  fx", 5);
        reads(2, "all p &  gx", 9);
        reads(2, "all (p |  all p)", 10);
        reads(2, "all  some p", 5);
        // Where two of these are wrong of one word, it is its begin, too.
        reads(2, "--------all fg", 8);
        reads(2, "all(------all p)", 10);
    }

    private static void wrongDigits() {
        due.term("a digit that is no THING;");
        reads(1, "f1", 1);
        reads(2, "p & g2", 5);
        reads(3, "all(fx & f3)", 10);
        reads(2, "f20", 1);
        reads(2, "f9x", 1);
    }

    private static void ninthDeep() {
        due.term("what is a 9th one deep: -, (, the word, >;");
        String[] eights = {"--------", "((((((((", "-(-(-(-(", "p>p>p>p>p>p>p>p>", "p>-(p>-(p>("};
        for (String eight : eights) {
            reads(2, eight + "-p", eight.length());
            reads(2, eight + "(p", eight.length());
            reads(2, eight + "all p", eight.length());
            reads(2, eight + "  some p", eight.length() + 2);
        }
        reads(2, "((((((((p>q", 9);
        reads(2, "((((((((p >q", 10);
        reads(2, "-(-(-(-(p|q>q", 11);
        reads(2, "p>p>p>p>p>p>p>p>p > p", 18);
        reads(2, "-(-(-(all(fx>p", 12);
    }

    private static void fortyFirstSign() {
        due.term("the SIGN that is the 41st)");
        String open = row(20, "&") + "&";
        for (String last : new String[] {"p", "f0", "f9", "fx", "-p", "all fx", "some fx", "-", "all"}) {
            reads(2, open + last, 40);
            reads(2, open + "  " + last, 42);
            reads(2, open + "((" + last + "))", 42);
        }
        reads(2, open + "(", 41);
        reads(2, open + ")", 40);
        String closed = "-" + row(20, "|");
        for (String last : new String[] {"&p", "|p", ">p", "&", ">"}) {
            reads(2, closed + last, 40);
            reads(2, closed + " " + last, 41);
            reads(2, "(" + closed + ")" + last, 42);
        }
        reads(2, "(" + closed + ")", RIGHT);
    }

    private static void moreMustCome() {
        due.term("or the text's length, if more must come (an empty text has none).");
        String[] texts = {"", " ", "-", "- ", "(", "( ", "(p", "(p ", "(p&", "((p)", "p&", "p|", "p>", "p> ", "all", "all ", "some", "some -",
            "all(", "all(fx", "p>(q|", "--------", "((((((((", "((((((((p", " ".repeat(400), "p&" + " ".repeat(398)};
        for (String text : texts) {
            reads(2, text, text.length());
        }
        ProofShop shop = new ProofShop();
        due.fails("a tape that was never fed", Due.ARGUMENT, () -> shop.formula());
        due.is("its fault", 0, shop.fault());
    }

    private static void same() {
        due.term("Two FORMULAS are SAME, if they are told alike but for blanks and ( ) that change nothing.");
        isSame(true, "p", " (( p )) ");
        isSame(true, "p>q>r", "p>(q>r)");
        isSame(false, "p>q>r", "(p>q)>r");
        isSame(true, "p|q&r", "p|(q&r)");
        isSame(false, "p|q&r", "(p|q)&r");
        isSame(true, "-p&q", "(-p)&q");
        isSame(false, "-p&q", "-(p&q)");
        isSame(true, "all fx&p", "(all (fx))&p");
        isSame(false, "all fx&p", "all(fx&p)");
        isSame(false, "p", "--p");
        isSame(false, "p&q", "q&p");
        isSame(false, "f0", "f1");
        isSame(false, "f0", "g0");
        isSame(false, "all fx", "some fx");
        isSame(false, "all fx", "all f0");
        isSame(false, "all p", "p");
        ProofShop three = Due.shopOf(3, "all fx", "all f0", "all f1", "all f2", "some(gx&g2)", "some(gx&gx)");
        for (int thing = 0; thing < 3; thing++) {
            due.is("x and THING " + thing, false, three.same(0, 1 + thing));
        }
        due.is("x and the last THING", false, three.same(4, 5));
    }

    private static void feedHighestFirst() {
        due.promise(2, "Twenty bytes come behind the TAPE, of each number the highest first: how many it has;");
        for (int at = 0; at < 20; at++) {
            int[] n = {BLANKS, BLANKS, BLANKS, BLANKS, BLANKS};
            n[at / 4] = n[at / 4] & ~(255 << 24 - at % 4 * 8) | ')' << 24 - at % 4 * 8;
            ProofShop shop = new ProofShop();
            due.is("the first twenty", 20, shop.feed('p' << 24 | 0x202020, BLANKS, BLANKS, BLANKS, BLANKS));
            due.is("twenty more", 40, shop.feed(n[0], n[1], n[2], n[3], n[4]));
            due.fails("formula", Due.ARGUMENT, () -> shop.formula());
            due.is("where byte " + at + " came", 20 + at, shop.fault());
        }
        ProofShop high = new ProofShop();
        due.is("all bits", 20, high.feed(-1, -1, -1, -1, -1));
        due.is("least", 40, high.feed(Integer.MIN_VALUE, Integer.MAX_VALUE, 0, 1, -2));
        due.fails("formula", Due.ARGUMENT, () -> high.formula());
        due.is("fault", 0, high.fault());
    }

    private static void feedTooMany() {
        due.promise(2, "NONE, and none come, if it would have more than 400.");
        ProofShop shop = new ProofShop();
        for (int i = 1; i <= 20; i++) {
            due.is("feed", 20 * i, shop.feed(BLANKS, BLANKS, BLANKS, BLANKS, BLANKS));
        }
        due.is("420", NONE, shop.feed(-1, -1, -1, -1, -1));
        due.is("none came", false, shop.end(401));
        due.fails("400 blanks", Due.ARGUMENT, () -> shop.formula());
        due.is("all of them blanks", 400, shop.fault());
        ProofShop odd = new ProofShop();
        for (int i = 1; i <= 20; i++) {
            odd.feed(BLANKS, BLANKS, BLANKS, BLANKS, BLANKS);
        }
        odd.end(381);
        due.is("401", NONE, odd.feed('p' << 24, 0, 0, 0, 0));
        due.is("still 381", false, odd.end(382));
        odd.end(380);
        due.is("400", 400, odd.feed(BLANKS, BLANKS, BLANKS, BLANKS, BLANKS - ' ' + 'p'));
        due.is("its last byte is read", 0, odd.formula());
    }

    private static void end() {
        due.promise(3, "The TAPE has its first n bytes alone: true;");
        ProofShop shop = new ProofShop();
        due.is("0 of none", true, shop.end(0));
        shop.feed('p' << 24 | '&' << 16 | 'q' << 8 | '&', 0, 0, 0, 0);
        due.is("all", true, shop.end(20));
        due.is("three", true, shop.end(3));
        due.is("more come behind these", 23, shop.feed('|' << 24 | 'r' << 16, 0, 0, 0, 0));
        due.is("five", true, shop.end(5));
        due.is("p&q|r", 0, shop.formula());
        due.is("its signs", 5, shop.signs(0));
        Due.tape(shop, "p");
        due.is("none of one", true, shop.end(0));
        due.fails("an empty text", Due.ARGUMENT, () -> shop.formula());
        due.is("its fault", 0, shop.fault());
        for (int i = 0; i < 20; i++) {
            shop.feed(BLANKS, BLANKS, BLANKS, BLANKS, BLANKS);
        }
        due.is("400 of 400", true, shop.end(400));
    }

    private static void endRefused() {
        due.promise(3, "false, and nothing happens, if it has fewer, or n is below 0.");
        ProofShop shop = new ProofShop();
        for (int n : new int[] {1, -1, 20, 400, Integer.MAX_VALUE, Integer.MIN_VALUE}) {
            due.is("end " + n + " of none", false, shop.end(n));
        }
        Due.tape(shop, "p&q");
        for (int n : new int[] {4, -1, 20, 400, 401, Integer.MAX_VALUE, Integer.MIN_VALUE}) {
            due.is("end " + n + " of three", false, shop.end(n));
        }
        due.is("p&q stays", 0, shop.formula());
        due.is("its signs", 3, shop.signs(0));
    }

    private static boolean isTapeEmpty(ProofShop shop) {
        boolean isEmpty = !shop.end(1) && shop.feed(0, 0, 0, 0, 0) == 20;
        shop.end(0);
        return isEmpty;
    }

    private static void formulaUsesTape() {
        due.promise(4, "Uses the TAPE up: a FORMULA: its number");
        ProofShop shop = new ProofShop();
        for (int i = 0; i < 30; i++) {
            due.is("number", i, Due.tell(shop, "p"));
            due.is("tape behind a right text", true, isTapeEmpty(shop));
        }
        Due.tape(shop, "p");
        due.fails("a 31st", Due.UNSUPPORTED, () -> shop.formula());
        due.is("tape behind a 31st", true, isTapeEmpty(shop));
        Due.tape(shop, "p&");
        due.fails("a wrong text", Due.ARGUMENT, () -> shop.formula());
        due.is("tape behind a wrong text", true, isTapeEmpty(shop));
        ProofShop other = new ProofShop();
        Due.tape(other, "(p)(q)" + " ".repeat(394));
        due.fails("a wrong text that is full", Due.ARGUMENT, () -> other.formula());
        due.is("tape behind it", true, isTapeEmpty(other));
    }

    private static void formulaAgain() {
        due.promise(4, "(a SAME one may be told again).");
        ProofShop shop = Due.shop("p&q", "( p & q )", "p&q");
        due.is("three", 3, shop.count(1));
        due.is("SAME", true, shop.same(0, 1) && shop.same(1, 2) && shop.same(0, 2));
        ProofShop full = Due.fullOf(3, "all(fx>gx)");
        due.is("thirty SAME", 30, full.count(1));
        due.is("the first and the last", true, full.same(0, 29));
    }

    private static void formulaWrong() {
        due.promise(4, "IllegalArgumentException: the text is wrong;");
        ProofShop shop = Due.shop("p");
        for (String text : new String[] {"", " ", "p&", "t", "fx", "f2", "---------p", row(21, "&")}) {
            Due.tape(shop, text);
            due.fails("'" + text + "'", Due.ARGUMENT, () -> shop.formula());
            due.is("formulas behind '" + text + "'", 1, shop.count(1));
        }
        due.is("the next is 1", 1, Due.tell(shop, "q"));
    }

    private static void formulaFull() {
        due.promise(4, "UnsupportedOperationException: there are 30.");
        due.term("FORMULAS (at most 30, numbered from 0 on)");
        ProofShop shop = new ProofShop();
        for (int i = 0; i < 29; i++) {
            Due.tell(shop, "p");
        }
        shop.image();
        due.is("the 30th", 29, Due.tell(shop, "q"));
        Due.tape(shop, "r");
        due.fails("the 31st", Due.UNSUPPORTED, () -> shop.formula());
        due.is("still 30", 30, shop.count(1));
        due.fails("none of number 30", Due.INDEX, () -> shop.signs(30));
        shop.back();
        due.is("the 30th anew", 29, Due.tell(shop, "r&q"));
        due.is("is another", 3, shop.signs(29));
    }

    /** Thirty formulas of forty signs over three things, no two of them SAME: the first letters tell each. */
    private static void thirtyOfForty() {
        due.term("FORMULAS (at most 30, numbered from 0 on)");
        ProofShop shop = Due.shopOf(3);
        for (int i = 0; i < 30; i++) {
            StringBuilder text = new StringBuilder(i % 2 == 0 ? "all(" : "some(");
            for (int bit = 0; bit < 5; bit++) {
                text.append((i >> bit & 1) == 0 ? "p&" : "q&");
            }
            text.append("fx&gx&".repeat(7)).append("fx)");
            due.is("number of " + text, i, Due.tell(shop, text.toString()));
        }
        for (int i = 0; i < 30; i++) {
            due.is("signs of " + i, 40, shop.signs(i));
            // Of 64 ways of f and g, all(fx&gx) has 1, some(fx&gx) 37; p alone is asked by 0, else p and q.
            due.is("worlds of " + i, (i == 0 ? 8 : 4) * (i % 2 == 0 ? 1 : 37), shop.worlds(i));
            for (int k = i + 1; k < 30; k += 3) {
                due.is("SAME " + i + " and " + k, false, shop.same(i, k));
            }
        }
    }

    private static void fault() {
        due.promise(5, "The first wrong byte of the latest text that was read; NONE without one, and ahead of any.");
        ProofShop shop = new ProofShop();
        due.is("ahead of any", NONE, shop.fault());
        Due.tape(shop, "p&&");
        due.is("ahead of reading", NONE, shop.fault());
        due.fails("p&&", Due.ARGUMENT, () -> shop.formula());
        due.is("of p&&", 2, shop.fault());
        Due.tape(shop, "q");
        due.is("till the next is read", 2, shop.fault());
        shop.formula();
        due.is("without one", NONE, shop.fault());
        ProofShop full = Due.fullOf(2, "p");
        Due.tape(full, "p)");
        due.fails("a wrong text, and there are 30", Due.ARGUMENT, () -> full.formula());
        due.is("its fault", 1, full.fault());
        Due.tape(full, "p");
        due.fails("a right one", Due.UNSUPPORTED, () -> full.formula());
        due.is("was read, too", NONE, full.fault());
    }
}
