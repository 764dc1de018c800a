import java.nio.charset.StandardCharsets;

/** What a test says of one object: each call's answer against the one that is due. */
final class Due {
    static final String INDEX = "IndexOutOfBoundsException";
    static final String ARGUMENT = "IllegalArgumentException";
    static final String STATE = "IllegalStateException";
    static final String UNSUPPORTED = "UnsupportedOperationException";
    static final String NO_ELEMENT = "NoSuchElementException";

    /** A call that may throw; a boolean counts 1 or 0. */
    interface Call {
        long answer();
    }

    interface OneNumber {
        long answer(int number);
    }

    static long bit(boolean is) {
        return is ? 1L : 0L;
    }

    private int wrong = 0;
    private int asked = 0;
    private String sentence = "";

    /** The next answers are about this sentence of a promise. */
    void promise(int number, String text) {
        quote(Document.promise(number), text);
    }

    /** The next answers are about this sentence of the terms. */
    void term(String text) {
        quote(Document.TERMS, text);
    }

    void quote(String section, String text) {
        sentence = "";
        is("the document says in '" + section + "': " + text, true, Document.says(section, text));
        sentence = section + " '" + text + "': ";
    }

    void is(String what, long want, long got) {
        asked++;
        if (got != want) {
            wrong++;
            System.out.println(sentence + what + " answered " + got + ", due is " + want);
        }
    }

    void is(String what, boolean want, boolean got) {
        is(what, bit(want), bit(got));
    }

    void fails(String what, String want, Call call) {
        asked++;
        String got = "nothing";
        try {
            call.answer();
        } catch (RuntimeException e) {
            got = e.getClass().getSimpleName();
        }
        if (!got.equals(want)) {
            wrong++;
            System.out.println(sentence + what + " threw " + got + ", due is " + want);
        }
    }

    /** Ends the test, with exit code 1 if an answer was not the one that is due. */
    void close(String name) {
        System.out.println(name + ": " + asked + " answers, " + wrong + " wrong");
        if (wrong != 0) {
            System.exit(1);
        }
    }

    /** Puts a text on the tape, which is empty. */
    static void tape(ProofShop shop, String text) {
        byte[] bytes = text.getBytes(StandardCharsets.ISO_8859_1);
        byte[] whole = new byte[(bytes.length + 19) / 20 * 20];
        System.arraycopy(bytes, 0, whole, 0, bytes.length);
        for (int i = 0; i < whole.length; i += 20) {
            shop.feed(word(whole, i), word(whole, i + 4), word(whole, i + 8), word(whole, i + 12), word(whole, i + 16));
        }
        shop.end(bytes.length);
    }

    private static int word(byte[] bytes, int at) {
        return (bytes[at] & 255) << 24 | (bytes[at + 1] & 255) << 16 | (bytes[at + 2] & 255) << 8 | bytes[at + 3] & 255;
    }

    static int tell(ProofShop shop, String text) {
        tape(shop, text);
        return shop.formula();
    }

    static ProofShop shop(String... texts) {
        return shopOf(2, texts);
    }

    static ProofShop shopOf(int things, String... texts) {
        ProofShop shop = new ProofShop();
        shop.things(things);
        for (String text : texts) {
            tell(shop, text);
        }
        return shop;
    }

    /** Thirty formulas: those told, and behind them the last one again and again. */
    static ProofShop fullOf(int things, String... texts) {
        ProofShop shop = shopOf(things, texts);
        for (int i = texts.length; i < 30; i++) {
            tell(shop, texts[texts.length - 1]);
        }
        return shop;
    }

    /** A call with one number is refused for each of these. */
    void refuses(String what, String want, OneNumber call, int... numbers) {
        for (int number : numbers) {
            fails(what + " " + number, want, () -> call.answer(number));
        }
    }

    /** The text is wrong, and its fault is at a place. */
    void faultAt(int things, String text, int place) {
        ProofShop shop = shopOf(things);
        tape(shop, text);
        fails("formula of '" + text + "'", ARGUMENT, () -> shop.formula());
        is("fault of '" + text + "'", place, shop.fault());
        is("formulas behind '" + text + "'", 0, shop.count(1));
        is("tape behind '" + text + "'", 20, shop.feed(0, 0, 0, 0, 0));
    }

    void isRight(int things, String text, int signs) {
        ProofShop shop = shopOf(things);
        tape(shop, text);
        try {
            is("formula of '" + text + "'", 0, shop.formula());
            is("signs of '" + text + "'", signs, shop.signs(0));
        } catch (RuntimeException e) {
            is("'" + text + "' is right, fault " + shop.fault(), true, false);
        }
        is("fault of '" + text + "'", ProofShop.NONE, shop.fault());
    }
}
