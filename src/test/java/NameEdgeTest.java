/** The edges of promises 4, 5, 9 and 10: house, name, alike, spell; of NAMES, ALIKE signs and SPELL. */
public final class NameEdgeTest {
    private static final String SIGNS = "abcdefghijklmnopqrstuvwxyz0123456789";
    private static final String TWELVE = "abcdefghij09";
    private static final Edges.Maker FOUR = () -> houses(4);
    private static final Edges.Maker FIVE = () -> houses(5);

    public static void main(String[] args) {
        Edges.run("NameEdgeTest", NameEdgeTest::sentences);
    }

    static void sentences(Edges e) {
        e.of("Term 1", "NAMES: 1 .. 12 letters a .. z or digits 0 .. 9.", NameEdgeTest::oneToTwelveSigns);
        e.of("Promise 4", "The tape is taken (and is empty then), all its bytes, as NAME of a HOUSE: its number.",
                NameEdgeTest::houseTakesAllBytes);
        e.of("Promise 4", "NONE: a FAULT: 1, at the first byte that is no sign of a NAME", NameEdgeTest::houseNoSign);
        e.of("Promise 4", "(of none at all at place 0);", NameEdgeTest::houseOfNone);
        e.of("Promise 4", "without one 2, at the 13th one.", NameEdgeTest::house13);
        e.of("Promise 4", "-2: there are 5 (FAULT 0).", NameEdgeTest::houseWhenThereAreFive);
        e.of("Promise 5", "The same as the NAME of a PAGE that came: true;", NameEdgeTest::nameTaken);
        e.of("Promise 5", "false: a FAULT,", NameEdgeTest::nameFault);
        e.of("Promise 5", "or there is none such (no text is read then, FAULT 0; the tape is empty all the same).",
                NameEdgeTest::nameOfNone);
        e.of("Promise 9", "Two signs (bytes) are ALIKE, at a PRICE (6: not ALIKE): true;", NameEdgeTest::alike);
        e.of("Promise 9", "false: they are one,", NameEdgeTest::alikeToItself);
        e.of("Promise 9", "no signs of NAMES,", NameEdgeTest::alikeNoSigns);
        e.of("Promise 9", "or another number.", NameEdgeTest::alikeAnotherNumber);
        e.of("Promise 10", "SPELL of the NAMES of a PAGE and a HOUSE.", NameEdgeTest::spellOfThese);
        e.of("Promise 10", "NONE: there is none such (of either),", NameEdgeTest::spellOfNone);
        e.of("Promise 10", "or no NAME.", NameEdgeTest::spellWithoutName);
        spell(e);
    }

    private static void spell(Edges e) {
        e.of("Term 1", "ALIKE signs (of two unlike ones) have a PRICE, 1 .. 5; other ones 6.", NameEdgeTest::prices);
        e.of("Term 1", "SPELL of two NAMES: the least price of changes by which one becomes the other one,",
                NameEdgeTest::leastPrice);
        e.of("Term 1", "from the left on, no sign changed twice:", NameEdgeTest::noSignTwice);
        e.of("Term 1", "a sign put in or taken out 4; one for another one its PRICE;", NameEdgeTest::putInOrAnother);
        e.of("Term 1", "two neighbours the other way round 3.", NameEdgeTest::otherWayRound);
    }

    private static PretendDesk houses(int n) {
        PretendDesk x = new PretendDesk();
        for (int k = 0; k < n; k++) {
            Checks.house(x, "house" + k);
            Checks.page(x, "pin;");
            Checks.name(x, k, "house" + k);
        }
        return x;
    }

    private static String row(int n) {
        return "a".repeat(n);
    }

    private static int price(PretendDesk x, String its, String owners) {
        int page = Checks.page(x, "box;");
        Checks.name(x, page, its);
        return x.spell(page, Checks.house(x, owners));
    }

    private static int price(String its, String owners) {
        return price(new PretendDesk(), its, owners);
    }

    // ---- NAMES

    private static void oneToTwelveSigns(Edges e) {
        for (int n = 1; n <= 12; n++) {
            e.is("house of " + n + " signs", Checks.house(new PretendDesk(), row(n)), 0);
            e.is("name of " + n + " signs", Checks.name(Desks.came("box;").make(), 0, row(n)), true);
            e.is("SPELL of " + n + " signs and 1", price(row(n), "a"), 4 * (n - 1));
        }
        for (int n = 13; n <= 15; n++) {
            e.refusedText("house", row(n), -1, 2, 12, Desks.NEW, PretendDesk::house);
        }
        for (int sign = 0; sign < 256; sign++) {
            boolean good = SIGNS.indexOf(sign) >= 0;
            e.is("house of byte " + sign, Checks.house(new PretendDesk(), "" + (char) sign), good ? 0 : -1);
            e.is("name of byte " + sign, Checks.name(Desks.came("box;").make(), 0, "" + (char) sign), good);
        }
    }

    // ---- promise 4

    private static void houseTakesAllBytes(Edges e) {
        PretendDesk x = new PretendDesk();
        for (int k = 0; k < 5; k++) {
            e.is("house", Checks.house(x, TWELVE.substring(k)), k);
            e.empty("house", x);
            e.fault("house", x, 0, -1);
            e.is("count(0)", x.count(0), k + 1);
        }
        for (int k = 0; k < 5; k++) {
            Checks.page(x, "box;");
            Checks.name(x, k, TWELVE.substring(k));
            e.is("it is the NAME, spell(" + k + ", " + k + ")", x.spell(k, k), 0);
        }
        String[] notAll = {"bank ", " bank", "bank\n", "bank\0", "ba nk"};
        int[] places = {4, 0, 4, 4, 2};
        for (int k = 0; k < notAll.length; k++) {
            e.refusedText("house", notAll[k], -1, 1, places[k], Desks.NEW, PretendDesk::house);
        }
    }

    private static void houseNoSign(Edges e) {
        for (int sign = 0; sign < 256; sign++) {
            if (SIGNS.indexOf(sign) < 0) {
                PretendDesk x = FOUR.make();
                e.is("house of a and byte " + sign, Checks.house(x, "a" + (char) sign + "?"), -1);
                e.fault("house of a and byte " + sign, x, 1, 1);
                e.is("count(0)", x.count(0), 4);
            }
        }
        for (int at : new int[] {0, 1, 10, 11, 12, 13, 40, 478, 479}) {
            PretendDesk x = FOUR.make();
            e.is("house with ? at " + at, Checks.house(x, row(at) + "?" + row(479 - at)), -1);
            e.fault("house with ? at " + at, x, 1, at);
        }
        e.refusedText("house", "a?b?", -1, 1, 1, Desks.RICH, PretendDesk::house);
        e.refusedText("house", row(12) + "-", -1, 1, 12, FOUR, PretendDesk::house);
        e.refusedText("house", row(13) + "-", -1, 1, 13, FOUR, PretendDesk::house);
    }

    private static void houseOfNone(Edges e) {
        e.refusedText("house", "", -1, 1, 0, Desks.NEW, PretendDesk::house);
        e.refusedText("house", "", -1, 1, 0, Desks.RICH, PretendDesk::house);
        e.refusedText("house", "", -1, 1, 0, FOUR, PretendDesk::house);
        e.is("house of one sign", Checks.house(FOUR.make(), "a"), 4);
    }

    private static void house13(Edges e) {
        e.is("house of 12", Checks.house(FOUR.make(), row(12)), 4);
        for (int n : new int[] {13, 14, 20, 480}) {
            e.refusedText("house", row(n), -1, 2, 12, FOUR, PretendDesk::house);
        }
        e.refusedText("house", "0123456789abc", -1, 2, 12, Desks.RICH, PretendDesk::house);
    }

    private static void houseWhenThereAreFive(Edges e) {
        e.is("house, the fifth", Checks.house(FOUR.make(), "a"), 4);
        for (String text : new String[] {"a", TWELVE, row(13), "a?", "", " ", row(13) + "?", "house0"}) {
            e.refusedText("house", text, -2, 0, -1, FIVE, PretendDesk::house);
        }
        e.refusedText("house", "a", -2, 0, -1, Desks.FULL, PretendDesk::house);
        PretendDesk x = FIVE.make();
        for (int k = 0; k < 5; k++) {
            e.is("the NAMES stay, spell", x.spell(k, k), 0);
        }
    }

    // ---- promise 5

    private static void nameTaken(Edges e) {
        PretendDesk x = Desks.FULL.make();
        for (int page : new int[] {0, 1, 8, 9}) {
            e.is("name(" + page + ")", Checks.name(x, page, "house2"), true);
            e.fault("name(" + page + ")", x, 0, -1);
            e.empty("name(" + page + ")", x);
            e.is("spell(" + page + ", 2)", x.spell(page, 2), 0);
            e.is("name(" + page + ") anew", Checks.name(x, page, "house3"), true);
            e.is("the new one, spell(" + page + ", 3)", x.spell(page, 3), 0);
            e.is("the new one, spell(" + page + ", 2)", x.spell(page, 2), 6);
        }
        e.is("name of one sign", Checks.name(x, 0, "h"), true);
        e.is("name of 12 signs", Checks.name(x, 0, TWELVE), true);
    }

    private static void nameFault(Edges e) {
        Edges.Ask name = x -> Edges.bit(x.name(0));
        e.refusedText("name(0)", row(13), 0, 2, 12, Desks.RICH, name);
        e.refusedText("name(0)", row(12) + "?", 0, 1, 12, Desks.RICH, name);
        e.refusedText("name(0)", row(13) + "?", 0, 1, 13, Desks.RICH, name);
        e.refusedText("name(0)", "", 0, 1, 0, Desks.RICH, name);
        e.refusedText("name(0)", " bank", 0, 1, 0, Desks.RICH, name);
        e.refusedText("name(2), which has none", "B", 0, 1, 0, Desks.RICH, x -> Edges.bit(x.name(2)));
        e.is("it has none still", Desks.RICH.make().spell(2, 0), -1);
    }

    private static void nameOfNone(Edges e) {
        for (int page : new int[] {5, 6, -1, 10, Integer.MIN_VALUE, Integer.MAX_VALUE}) {
            for (String text : new String[] {"a", "", "a?", row(13)}) {
                e.refusedText("name(" + page + ") of 5", text, 0, 0, -1, Desks.RICH, x -> Edges.bit(x.name(page)));
            }
        }
        e.refusedText("name(10) of 10", "a", 0, 0, -1, Desks.FULL, x -> Edges.bit(x.name(10)));
        e.refusedText("name(0) of none", "a", 0, 0, -1, Desks.NEW, x -> Edges.bit(x.name(0)));
        e.is("name(4) of 5", Checks.name(Desks.RICH.make(), 4, "a"), true);
        e.is("name(9) of 10", Checks.name(Desks.FULL.make(), 9, "a"), true);
    }

    // ---- promise 9

    private static void alike(Edges e) {
        for (int a = 0; a < SIGNS.length(); a++) {
            int b = (a + 7) % SIGNS.length();
            PretendDesk x = new PretendDesk();
            Checks.house(x, SIGNS.substring(a, a + 1));
            Checks.page(x, "box;");
            Checks.name(x, 0, SIGNS.substring(b, b + 1));
            for (int price = 1; price <= 6; price++) {
                e.is("alike at " + price, x.alike(SIGNS.charAt(a), SIGNS.charAt(b), price), true);
                e.is("spell at " + price, x.spell(0, 0), price);
                e.is("alike at 6", x.alike(SIGNS.charAt(b), SIGNS.charAt(a), 6), true);
                e.is("spell when not ALIKE", x.spell(0, 0), 6);
                e.is("alike at " + price + ", the other way round", x.alike(SIGNS.charAt(b), SIGNS.charAt(a), price), true);
                e.is("spell at " + price, x.spell(0, 0), price);
            }
        }
        PretendDesk x = new PretendDesk();
        x.alike('a', '9', 1);
        x.alike('z', '0', 2);
        e.is("the first letter and the last digit", price(x, "a", "9"), 1);
        e.is("the last letter and the first digit", price(x, "z", "0"), 2);
        e.is("other ones are not ALIKE", price(x, "a", "0"), 6);
        e.is("other ones are not ALIKE", price(x, "z", "9"), 6);
    }

    private static Edges.Ask alike(int a, int b, int price) {
        return x -> Edges.bit(x.alike(a, b, price));
    }

    private static void alikeToItself(Edges e) {
        for (int sign : new int[] {'a', 'z', '0', '9', 'm'}) {
            e.refused("alike of " + sign + " and itself", 0, Desks.RICH, alike(sign, sign, 1));
            e.is("spell of it and itself", price((char) sign + "", (char) sign + ""), 0);
        }
        PretendDesk x = new PretendDesk();
        x.alike('a', 'a', 5);
        e.is("spell of it and itself behind that", price(x, "a", "a"), 0);
        e.is("alike of a and b", x.alike('a', 'b', 5), true);
    }

    private static void alikeNoSigns(Edges e) {
        PretendDesk x = new PretendDesk();
        for (int sign = -2; sign < 258; sign++) {
            boolean good = sign > 0 && SIGNS.indexOf(sign) >= 0 && sign != 'a';
            e.is("alike of a and " + sign, new PretendDesk().alike('a', sign, 3), good);
            e.is("alike of " + sign + " and a", new PretendDesk().alike(sign, 'a', 3), good);
        }
        int[] none = {'a' - 1, 'z' + 1, '0' - 1, '9' + 1, 'A', 0, -1, 256 + 'b', 65536 + 'b', Integer.MIN_VALUE, Integer.MAX_VALUE};
        for (int sign : none) {
            e.refused("alike of m and " + sign, 0, Desks.RICH, alike('m', sign, 3));
            e.refused("alike of " + sign + " and n", 0, Desks.RICH, alike(sign, 'n', 3));
            e.is("alike of none and itself", x.alike(sign, sign, 3), false);
        }
    }

    private static void alikeAnotherNumber(Edges e) {
        e.range("alike('m', 'n', price)", 1, 6, 0, Desks.RICH, (x, n) -> Edges.bit(x.alike('m', 'n', n)));
        PretendDesk x = new PretendDesk();
        x.alike('m', 'n', 2);
        x.alike('m', 'n', 0);
        x.alike('m', 'n', 7);
        x.alike('n', 'm', -1);
        e.is("the PRICE stays", price(x, "m", "n"), 2);
    }

    // ---- promise 10 and SPELL

    private static void spellOfThese(Edges e) {
        PretendDesk x = Desks.FULL.make();
        for (int page : new int[] {0, 9}) {
            Checks.name(x, page, "house0");
            e.is("spell(" + page + ", 0)", x.spell(page, 0), 0);
            e.is("spell(" + page + ", 4)", x.spell(page, 4), 6);
        }
        x = Desks.RICH.make();
        e.is("bamk and bank", x.spell(0, 0), 1);
        e.is("shop and sh0p", x.spell(1, 1), 2);
    }

    private static void spellOfNone(Edges e) {
        Edges.Maker named = () -> {
            PretendDesk x = Desks.FULL.make();
            Checks.name(x, 0, "a");
            Checks.name(x, 9, "a");
            return x;
        };
        e.range("spell(0, house) of 5", 0, 4, -1, FIVE, (x, n) -> x.spell(0, n));
        e.range("spell(page, 0) of 5", 0, 4, -1, FIVE, (x, n) -> x.spell(n, 0));
        e.is("spell(9, 4) of 10 and 5", named.make().spell(9, 4) > 0, true);
        e.refused("spell(10, 0) of 10", -1, named, x -> x.spell(10, 0));
        e.refused("spell(0, 5) of 5", -1, named, x -> x.spell(0, 5));
        e.refused("spell(0, 0) of none", -1, Desks.NEW, x -> x.spell(0, 0));
    }

    private static void spellWithoutName(Edges e) {
        Edges.Maker maker = Desks.bank("box;", "box;", "box;");
        e.refused("spell without a NAME", -1, maker, x -> x.spell(0, 0));
        PretendDesk x = maker.make();
        Checks.name(x, 0, "bank");
        e.is("spell with one", x.spell(0, 0), 0);
        e.is("spell of another PAGE", x.spell(1, 0), -1);
        Checks.name(x, 1, "b-nk");
        e.is("spell behind a FAULT", x.spell(1, 0), -1);
    }

    private static void prices(Edges e) {
        for (int price = 1; price <= 5; price++) {
            PretendDesk x = new PretendDesk();
            x.alike('l', '1', price);
            e.is("l and 1", price(x, "l", "1"), price);
            e.is("1 and l", price(x, "1", "l"), price);
            e.is("12 of them", price(x, "llllllllllll", "111111111111"), 12 * price);
            e.is("l and 7", price(x, "l", "7"), 6);
        }
        e.is("other ones", price("l", "1"), 6);
    }

    private static void leastPrice(Edges e) {
        e.is("one and itself", price("a", "a"), 0);
        e.is("12 and itself", price(TWELVE, TWELVE), 0);
        e.is("12 and 12 others", price(row(12), "b".repeat(12)), 72);
        e.is("12 and one of them", price(TWELVE, "9"), 44);
        e.is("one of 12 and them", price("a", TWELVE), 44);
        e.is("12 and another one", price(row(12), "b"), 50);
        e.is("one put in and one taken out, below two others", price("abcdefghijkl", "bcdefghijkla"), 8);
        e.is("two signs: others 12, or out and in 8", price("ab", "bc"), 8);
        e.is("one sign: another 6, or out and in 8", price("a", "b"), 6);
    }

    private static void noSignTwice(Edges e) {
        e.is("ca to abc: not 3 and 4", price("ca", "abc"), 12);
        e.is("abc to ca: not 4 and 3", price("abc", "ca"), 12);
        PretendDesk x = new PretendDesk();
        x.alike('a', 'b', 1);
        x.alike('b', 'c', 1);
        e.is("a to c: not by way of b", price(x, "a", "c"), 6);
        x = new PretendDesk();
        x.alike('b', 'c', 1);
        e.is("ab to ca: the other way round, not changed then", price(x, "ab", "ca"), 8);
        e.is("abc to bca: two ways round would change b twice", price("abc", "bca"), 8);
    }

    private static void putInOrAnother(Edges e) {
        String[] with = {"xbank", "bxank", "banxk", "bankx"};
        for (String name : with) {
            e.is(name + " and bank", price(name, "bank"), 4);
            e.is("bank and " + name, price("bank", name), 4);
        }
        String[] another = {"xank", "bxnk", "banx"};
        for (String name : another) {
            e.is(name + " and bank", price(name, "bank"), 6);
        }
        e.is("11 and 12", price(row(11), row(12)), 4);
        PretendDesk x = new PretendDesk();
        x.alike('x', 'k', 5);
        e.is("banx and bank at 5", price(x, "banx", "bank"), 5);
        x.alike('x', 'b', 1);
        e.is("xanx and bank at 1 and 5", price(x, "xanx", "bank"), 6);
    }

    private static void otherWayRound(Edges e) {
        e.is("the first two", price("abnk", "bank"), 3);
        e.is("the last two", price("bakn", "bank"), 3);
        e.is("two alone", price("ab", "ba"), 3);
        e.is("twice", price("abkn", "bank"), 6);
        e.is("six pairs", price("abcdefghijkl", "badcfehgjilk"), 18);
        e.is("four pairs, or one out and in", price("abababab", "babababa"), 8);
        e.is("over one between: a out, two round, a in", price("axb", "bxa"), 11);
        PretendDesk x = new PretendDesk();
        x.alike('a', 'b', 1);
        e.is("two for one another are less", price(x, "ab", "ba"), 2);
        x.alike('a', 'b', 2);
        e.is("two for one another are more", price(x, "ab", "ba"), 3);
    }
}
