/** Edges of houses and customers, a test for each sentence: promises 11 to 14. */
public final class BoundaryHousesTest {
    private static final Due due = new Due();
    private static final int NONE = ProofShop.NONE;
    private static final int LEAST = Integer.MIN_VALUE;
    private static final int MOST = Integer.MAX_VALUE;

    public static void main(String[] args) {
        rulesAtFirst();
        rules();
        rulesNone();
        pricesAtFirst();
        price();
        priceNone();
        cost();
        believe();
        believeNew();
        believesSame();
        beliefs();
        due.close("BoundaryHousesTest");
    }

    private static void rulesAtFirst() {
        due.term("HOUSES 0 to 2: which RULES they have (bits; all at first);");
        ProofShop shop = new ProofShop();
        for (int house = 0; house <= 2; house++) {
            due.is("house " + house, 65535, shop.rules(house, 0));
            due.is("none then", 0, shop.rules(house, 0));
        }
        due.refuses("house", Due.INDEX, n -> shop.rules(n, 0), -1, 3, LEAST, MOST);
    }

    private static void rules() {
        due.promise(11, "RULES of a HOUSE from now on (bits 0 to 15): which they were.");
        ProofShop shop = new ProofShop();
        int before = 65535;
        for (int rule = 0; rule <= 15; rule++) {
            due.is("before rule " + rule, before, shop.rules(1, 1 << rule));
            before = 1 << rule;
        }
        due.is("bit 15", 32768, shop.rules(1, 0));
        due.is("none", 0, shop.rules(1, 65535));
        due.is("all", 65535, shop.rules(1, 65535));
        due.is("house 0", 65535, shop.rules(0, 65535));
        due.is("house 2", 65535, shop.rules(2, 65535));
    }

    private static void rulesNone() {
        due.promise(11, "IllegalArgumentException: they are none.");
        ProofShop shop = new ProofShop();
        shop.rules(0, 9);
        due.refuses("rules", Due.ARGUMENT, n -> shop.rules(0, n), -1, 65536, 65536 | 1, LEAST, MOST);
        due.is("as they were", 9, shop.rules(0, 9));
        due.refuses("house, and no rules", Due.INDEX, n -> shop.rules(n, -1), -1, 3, LEAST, MOST);
    }

    private static void pricesAtFirst() {
        due.term("PRICE of each RULE (0 to 99; 10 at first) and of each SIGN (0 to 9; 1 at first)");
        ProofShop shop = new ProofShop();
        for (int house = 0; house <= 2; house++) {
            for (int rule = 0; rule <= 16; rule++) {
                int most = rule == 16 ? 9 : 99;
                due.is("at first", rule == 16 ? 1 : 10, shop.price(house, rule, most));
                due.is("the most", most, shop.price(house, rule, 0));
                due.is("the least", 0, shop.price(house, rule, 0));
            }
        }
    }

    private static int numberOf(int house, int rule) {
        return rule == 16 ? house + 3 : house * 16 + rule + 10;
    }

    private static void price() {
        due.promise(12, "PRICE of a RULE of a HOUSE (of SIGNS: rule 16): what it was.");
        ProofShop shop = new ProofShop();
        for (int house = 0; house <= 2; house++) {
            for (int rule = 0; rule <= 16; rule++) {
                shop.price(house, rule, numberOf(house, rule));
            }
        }
        for (int house = 0; house <= 2; house++) {
            for (int rule = 0; rule <= 16; rule++) {
                due.is("its own", numberOf(house, rule), shop.price(house, rule, 0));
            }
        }
        due.refuses("house", Due.INDEX, n -> shop.price(n, 0, 0), -1, 3, LEAST, MOST);
        due.refuses("rule", Due.INDEX, n -> shop.price(0, n, 0), -1, 17, LEAST, MOST);
    }

    private static void priceNone() {
        due.promise(12, "IllegalArgumentException: it is none.");
        ProofShop shop = new ProofShop();
        for (int rule = 0; rule <= 15; rule++) {
            int its = rule;
            due.refuses("price", Due.ARGUMENT, n -> shop.price(2, its, n), -1, 100, LEAST, MOST);
            due.is("as it was", 10, shop.price(2, rule, 10));
        }
        due.refuses("price of signs", Due.ARGUMENT, n -> shop.price(2, 16, n), -1, 10, 99, LEAST, MOST);
        due.is("as it was", 1, shop.price(2, 16, 1));
        due.refuses("house, and no price", Due.INDEX, n -> shop.price(n, 0, -1), -1, 3);
        due.refuses("rule, and no price", Due.INDEX, n -> shop.price(0, n, 100), -1, 17);
    }

    private static void cost() {
        due.term("a LINE costs the PRICE of its RULE and, for each SIGN of its FORMULA, that of a SIGN.");
        ProofShop shop = Due.shop("p", "-p" + "&p".repeat(19));
        shop.line(2, 0, 15, NONE, NONE, NONE);
        shop.line(2, 1, 15, NONE, NONE, NONE);
        due.is("at first", 11, shop.look(0, 6));
        due.is("forty signs", 50, shop.look(1, 6));
        shop.price(2, 15, 99);
        shop.price(2, 16, 9);
        due.is("one sign, the most", 108, shop.look(0, 6));
        due.is("the most", 99 + 360, shop.look(1, 6));
        shop.price(2, 15, 0);
        due.is("the rule for nothing", 360, shop.look(1, 6));
        shop.price(2, 16, 0);
        due.is("nothing", 0, shop.look(1, 6));
    }

    private static void believe() {
        due.promise(13, "A CUSTOMER is told to believe a FORMULA (that number alone), or not, from now on:");
        ProofShop shop = Due.fullOf(2, "p");
        due.is("the first", true, shop.believe(0, 0, true));
        due.is("the last", true, shop.believe(0, 29, true));
        due.is("these alone", 1 | 1 << 29, shop.beliefs(0));
        due.is("not the first", true, shop.believe(0, 0, false));
        due.is("the last alone", 1 << 29, shop.beliefs(0));
        for (int customer = 1; customer <= 3; customer++) {
            due.is("not customer " + customer, 0, shop.beliefs(customer));
        }
        due.refuses("customer", Due.INDEX, n -> Due.bit(shop.believe(n, 0, true)), -1, 4, LEAST, MOST);
        due.refuses("formula", Due.INDEX, n -> Due.bit(shop.believe(0, n, true)), -1, 30, LEAST, MOST);
        due.refuses("formula not", Due.INDEX, n -> Due.bit(shop.believe(0, n, false)), -1, 30, LEAST, MOST);
        due.is("nothing changed", 1 << 29, shop.beliefs(0));
    }

    private static void believeNew() {
        due.promise(13, "whether that is new.");
        ProofShop shop = Due.shop("p", "(p)");
        due.is("not, and he was not told", false, shop.believe(3, 0, false));
        due.is("told", true, shop.believe(3, 0, true));
        due.is("told again", false, shop.believe(3, 0, true));
        due.is("a SAME one", true, shop.believe(3, 1, true));
        due.is("not any more", true, shop.believe(3, 0, false));
        due.is("not again", false, shop.believe(3, 0, false));
        due.is("another customer", true, shop.believe(0, 0, true));
    }

    private static void believesSame() {
        due.term("CUSTOMERS 0 to 3 are told to believe FORMULAS; one believes what is SAME as one of these.");
        ProofShop shop = Due.shop("p", "((p))", "--p");
        for (int customer = 0; customer <= 3; customer++) {
            shop.line(0, 0, 0, customer, NONE, NONE);
            due.is("not yet", false, shop.is(customer, 0));
            shop.believe(customer, 2, true);
            due.is("what holds alike is not SAME", false, shop.is(customer, 0));
            shop.believe(customer, 1, true);
            due.is("what is SAME", true, shop.is(customer, 0));
        }
        due.is("no fifth customer's", 4, shop.count(2));
        due.refuses("customer", Due.INDEX, n -> shop.line(0, 0, 0, n, NONE, NONE), -1, 4, LEAST, MOST);
    }

    private static void beliefs() {
        due.promise(14, "What he is told to believe, as bits.");
        ProofShop shop = Due.fullOf(2, "p");
        due.is("nothing", 0, shop.beliefs(3));
        int bits = 0;
        for (int formula = 0; formula < 30; formula++) {
            shop.believe(3, formula, true);
            bits |= 1 << formula;
            due.is("with formula " + formula, bits, shop.beliefs(3));
        }
        due.is("all thirty", (1 << 30) - 1, shop.beliefs(3));
        due.refuses("customer", Due.INDEX, n -> shop.beliefs(n), -1, 4, LEAST, MOST);
    }
}
