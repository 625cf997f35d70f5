/** The edges of promises 15, 16, 17 and 19: far, look, like, strange; of FAR, HOUSES, LOOK, LIKE and STRANGE. */
public final class FarEdgeTest {
    private static final String[] KINDS = {"box", "form", "pass", "card", "pin", "logo", "text", "link"};
    private static final String WIDE = "box(pin;pin;pin;pin;pin;pin;pin;pin;pin;pin;pin;pin;pin;)";
    private static final String DEEP = "box(box(box(box(box(box;)))))";

    public static void main(String[] args) {
        Edges.run("FarEdgeTest", FarEdgeTest::sentences);
    }

    static void sentences(Edges e) {
        e.of("Term 1", "FAR of two trees (opened): the least price of changes by which one becomes the other one:",
                FarEdgeTest::leastPrice);
        e.of("Term 1", "a BOX put in, or taken out", FarEdgeTest::putIn);
        e.of("Term 1", "(what is in it comes, in its place and order, to that which it was in;", FarEdgeTest::whatIsInIt);
        e.of("Term 1", "of a PAGE's first BOX: the PAGE becomes a row of trees), 2 each;", FarEdgeTest::firstBox);
        e.of("Term 1", "a BOX's KIND becomes another one, 3, its COLOUR, 1 (both: 4).", FarEdgeTest::anotherKindOrColour);
        e.of("Promise 15", "FAR of two PAGES that came, opened by one PERSON.", FarEdgeTest::farOfThese);
        e.of("Promise 15", "NONE: there is none such (of any).", FarEdgeTest::farOfNone);
        e.of("Term 2", "HOUSES, at most 5, from 0 on, have a NAME and PAGES of their own, at most 2.", FarEdgeTest::houses);
        e.of("Term 2", "Of a PAGE opened by a PERSON: LOOK at a HOUSE: the least FAR of its PAGES", FarEdgeTest::leastOfItsPages);
        e.of("Term 2", "(999: it has none),", FarEdgeTest::houseWithoutPages);
        e.of("Term 2", "opened likewise.", FarEdgeTest::openedLikewise);
        e.of("Promise 16", "LOOK of a PAGE at a HOUSE.", FarEdgeTest::lookOfThese);
        e.of("Promise 16", "NONE: there is none such (of any).", FarEdgeTest::lookOfNone);
        e.of("Term 2", "LIKE: the HOUSE with the least LOOK, of several the least.", FarEdgeTest::leastLook);
        e.of("Promise 17", "LIKE.", FarEdgeTest::likeOfThese);
        e.of("Promise 17", "NONE: there is none such (of any),", FarEdgeTest::likeOfNone);
        e.of("Promise 17", "or there are no HOUSES.", FarEdgeTest::likeWithoutHouses);
        e.of("Term 2", "STRANGE: the least FAR of PAGES of two HOUSES,", FarEdgeTest::leastOfTwoHouses);
        e.of("Term 2", "opened by LAND 0 on DAY 0.", FarEdgeTest::strangeOpened);
        e.of("Promise 19", "STRANGE.", FarEdgeTest::strange);
        e.of("Promise 19", "NONE: there are no two HOUSES that have PAGES.", FarEdgeTest::strangeOfNone);
    }

    private static void far(Edges e, String a, String b, int due) {
        PretendDesk x = Desks.came(a, b).make();
        e.is("far of " + a + " and " + b, x.far(0, 1, 0, 0), due);
        e.is("far of " + b + " and " + a, x.far(1, 0, 0, 0), due);
    }

    // ---- FAR

    /** Trees at the edges of what a PAGE can be, each held against each by the plain Model. */
    private static void leastPrice(Edges e) {
        String[] trees = {WIDE, DEEP, "box land 1;", "box;", "link 9;", "box(pin(pin;)pin(pin;)pin(pin;)pin(pin;)pin(pin;)pin(pin;)pin;)",
            "link(text(text;)text(text;)text(text;)text(text;)text(text;)text(text;)text;)",
            "box(box(box(box(box(pin;)pin;)pin;)pin;)pin;pin;pin;pin;)", "box(pin;pin;pin;pin;box(pin;box(pin;box(pin;box(pin;)))))",
            "form(card;pass;pin;logo;text;link;box;form;card 1;pass 1;pin 1;logo 1;text 1;)", "pin(pin(pin(pin(pin(pin;pin;pin;pin;pin;pin;pin;pin;pin;)))))"};
        for (int a = 0; a < trees.length; a++) {
            for (int b = 0; b < trees.length; b++) {
                Model due = new Model();
                Checks.tell(due, trees[a]);
                due.page();
                Checks.tell(due, trees[b]);
                due.page();
                int far = Desks.came(trees[a], trees[b]).make().far(0, 1, 0, 0);
                e.is("far of " + trees[a] + " and " + trees[b], far, due.far(0, 1, 0, 0));
            }
        }
        far(e, WIDE, WIDE, 0);
        far(e, DEEP, "box(box;box;box;box;box;)", 16);
        far(e, WIDE, "box land 1;", 28);
        far(e, "box land 1;", "pin day 1;", 0);
    }

    private static void putIn(Edges e) {
        far(e, "box;", "box(pin;)", 2);
        far(e, "box(pin;)", "box(pin;pin;)", 2);
        far(e, "box(pin;card;)", "box(text;pin;card;)", 2);
        far(e, "box(pin;card;)", "box(pin;text;card;)", 2);
        far(e, "box(pin;card;)", "box(pin;card;text;)", 2);
        far(e, "box;", WIDE, 26);
        far(e, "box;", "box land 1;", 2);
        far(e, "box;", DEEP, 10);
        // Out and in, 4, is not dearer than another KIND and COLOUR, and less than two other KINDS.
        far(e, "box(pin;card;)", "box(card;pin;)", 4);
    }

    private static void whatIsInIt(Edges e) {
        far(e, "box(logo;form(text;link;)pin;)", "box(logo;text;link;pin;)", 2);
        far(e, "box(logo;form(text;link;)pin;)", "box(logo;link;text;pin;)", 6);
        far(e, "box(logo;form(text;link;)pin;)", "box(text;link;logo;pin;)", 6);
        far(e, "box(form(text;link;))", "box(text;link;)", 2);
        far(e, "box(form(text;)form(link;))", "box(form(text;link;))", 6);
        far(e, "box(form(text(pin;)))", "box(text(pin;))", 2);
        far(e, "box(form(text(pin;)))", "box(form(pin;))", 2);
        far(e, "box(form(text(pin;)))", "box(pin;)", 4);
    }

    private static void firstBox(Edges e) {
        far(e, "box(pin;)", "pin;", 2);
        far(e, "box(pin(text;))", "pin(text;)", 2);
        far(e, "form(text(pin;)link;)", "text(pin;)", 4);
        far(e, "box(box(pin;))", "pin;", 4);
        far(e, "box(pin;text;)", "pin(text;)", 5);
        far(e, "box(pin;)", "box land 1;", 4);
        // The row of trees becomes one tree again by a BOX put in as the first one.
        far(e, "box 5(pin;text;link;)", "link 9(pin;text;link;)", 4);
    }

    private static void anotherKindOrColour(Edges e) {
        for (int a = 0; a < KINDS.length; a++) {
            for (int b = 0; b < KINDS.length; b++) {
                int kind = a == b ? 0 : 3;
                far(e, KINDS[a] + ";", KINDS[b] + ";", kind);
                far(e, KINDS[a] + ";", KINDS[b] + " 1;", kind + 1);
                far(e, KINDS[a] + " 9;", KINDS[b] + " 0;", kind + 1);
                far(e, KINDS[a] + " 9(text;)", KINDS[b] + " 9(text 1;)", kind + 1);
            }
        }
        for (int colour = 0; colour <= 9; colour++) {
            far(e, "box(pin " + colour + ";)", "box(pin 4;)", colour == 4 ? 0 : 1);
        }
        // Where and when a BOX is shown is no matter, when it is.
        far(e, "box land 0 day 0(pin land 0;)", "box(pin;)", 0);
    }

    private static void farOfThese(Edges e) {
        PretendDesk x = Desks.came("box(pin;text day 50;)", "box(pin;link land 3;)", "pin land 1;").make();
        int[][] due = {{0, 0, 0, 0, 0}, {0, 1, 0, 0, 0}, {0, 1, 0, 49, 0}, {0, 1, 0, 50, 2}, {0, 1, 0, 99, 2}, {0, 1, 3, 49, 2},
            {0, 1, 3, 50, 3}, {0, 2, 0, 0, 4}, {0, 2, 1, 0, 2}, {2, 2, 0, 0, 0}, {2, 0, 3, 99, 6}, {1, 2, 3, 0, 6}};
        for (int[] d : due) {
            e.is("far(" + d[0] + ", " + d[1] + ", " + d[2] + ", " + d[3] + ")", x.far(d[0], d[1], d[2], d[3]), d[4]);
        }
    }

    private static void farOfNone(Edges e) {
        e.range("far(a, 0, 0, 0) of 5", 0, 4, -1, Desks.RICH, (x, n) -> x.far(n, 0, 0, 0));
        e.range("far(0, b, 0, 0) of 5", 0, 4, -1, Desks.RICH, (x, n) -> x.far(0, n, 0, 0));
        e.range("far(a, 9, 0, 0) of 10", 0, 9, -1, Desks.FULL, (x, n) -> x.far(n, 9, 0, 0));
        e.range("far(9, b, 0, 0) of 10", 0, 9, -1, Desks.FULL, (x, n) -> x.far(9, n, 0, 0));
        e.range("far(0, 1, land, 0)", 0, 3, -1, Desks.RICH, (x, n) -> x.far(0, 1, n, 0));
        e.range("far(0, 1, 0, day)", 0, 99, -1, Desks.RICH, (x, n) -> x.far(0, 1, 0, n));
        e.refused("far(0, 0, 0, 0) of none", -1, Desks.NEW, x -> x.far(0, 0, 0, 0));
    }

    // ---- HOUSES, LOOK, LIKE

    private static void houses(Edges e) {
        PretendDesk x = new PretendDesk();
        for (int k = 0; k < 5; k++) {
            e.is("house " + k, Checks.house(x, "h" + k), k);
            for (int own = 1; own <= 2; own++) {
                e.is("own " + own + " of " + k, Checks.own(x, k, "box " + k + "(" + "pin;".repeat(own) + ")"), own);
            }
            e.is("own 3 of " + k, Checks.own(x, k, "box;"), -2);
        }
        e.is("house 5", Checks.house(x, "h5"), -2);
        for (int k = 0; k < 5; k++) {
            Checks.page(x, "box " + k + "(pin;)");
            Checks.name(x, k, "h" + k);
            e.is("NAME of HOUSE " + k, x.spell(k, k), 0);
            for (int house = 0; house < 5; house++) {
                e.is("look(" + k + ", " + house + ", 0, 0)", x.look(k, house, 0, 0), k == house ? 0 : 1);
            }
        }
    }

    private static void leastOfItsPages(Edges e) {
        PretendDesk x = Desks.bank("box(pin;text;)", "box(pin;)", "form;", WIDE, "card land 1;").make();
        int[] one = {2, 7, 25, 6};
        int[] two = {2, 0, 25, 2};
        for (int page = 0; page < 4; page++) {
            e.is("look(" + page + ", 0, 0, 0) with one", x.look(page, 0, 0, 0), one[page]);
        }
        Checks.own(x, 0, "form;");
        for (int page = 0; page < 4; page++) {
            e.is("look(" + page + ", 0, 0, 0) with two", x.look(page, 0, 0, 0), two[page]);
        }
        x = Desks.bank("form;", "box(pin;)", "form;").make();
        Checks.own(x, 0, "box(pin;text;)");
        e.is("the second one is nearer", x.look(0, 0, 0, 0), 2);
        e.is("the first one is nearer", x.look(1, 0, 0, 0), 0);
    }

    private static void houseWithoutPages(Edges e) {
        PretendDesk x = Desks.came(WIDE, "box land 1;").make();
        for (int k = 0; k < 5; k++) {
            Checks.house(x, "a");
            e.is("look(0, " + k + ", 0, 0)", x.look(0, k, 0, 0), 999);
            e.is("look(1, " + k + ", 3, 99)", x.look(1, k, 3, 99), 999);
        }
        Checks.own(x, 4, "link 9 land 1;");
        e.is("one that has a PAGE, though empty", x.look(0, 4, 0, 0), 28);
        e.is("the one before", x.look(0, 3, 0, 0), 999);
    }

    private static void openedLikewise(Edges e) {
        PretendDesk x = Desks.bank("box(pin;text land 2;card day 50;)", "box(pin;)").make();
        int[][] due = {{0, 0, 0}, {1, 49, 0}, {2, 0, 2}, {3, 0, 0}, {0, 49, 0}, {0, 50, 2}, {2, 50, 4}, {2, 99, 4}};
        for (int[] d : due) {
            e.is("look(0, 0, " + d[0] + ", " + d[1] + ")", x.look(0, 0, d[0], d[1]), d[2]);
        }
    }

    private static void lookOfThese(Edges e) {
        PretendDesk x = Desks.RICH.make();
        int[][] due = {{0, 0, 0, 0, 3}, {0, 0, 2, 0, 5}, {0, 1, 0, 0, 11}, {0, 2, 0, 0, 999}, {2, 0, 0, 0, 0}, {4, 1, 0, 0, 5}};
        for (int[] d : due) {
            e.is("look(" + d[0] + ", " + d[1] + ", " + d[2] + ", " + d[3] + ")", x.look(d[0], d[1], d[2], d[3]), d[4]);
        }
        x = Desks.FULL.make();
        for (int page = 0; page < 10; page++) {
            e.is("look(" + page + ", " + page / 2 + ", 0, 0)", x.look(page, page / 2, 0, 0), 0);
        }
    }

    private static void lookOfNone(Edges e) {
        e.range("look(page, 0, 0, 0) of 5", 0, 4, -1, Desks.RICH, (x, n) -> x.look(n, 0, 0, 0));
        e.range("look(0, house, 0, 0) of 3", 0, 2, -1, Desks.RICH, (x, n) -> x.look(0, n, 0, 0));
        e.range("look(page, 4, 0, 0) of 10", 0, 9, -1, Desks.FULL, (x, n) -> x.look(n, 4, 0, 0));
        e.range("look(9, house, 0, 0) of 5", 0, 4, -1, Desks.FULL, (x, n) -> x.look(9, n, 0, 0));
        e.range("look(0, 0, land, 0)", 0, 3, -1, Desks.RICH, (x, n) -> x.look(0, 0, n, 0));
        e.range("look(0, 0, 0, day)", 0, 99, -1, Desks.RICH, (x, n) -> x.look(0, 0, 0, n));
        e.refused("look(0, 0, 0, 0) without HOUSES", -1, Desks.came("box;"), x -> x.look(0, 0, 0, 0));
        e.refused("look(0, 0, 0, 0) without PAGES", -1, () -> {
            PretendDesk x = new PretendDesk();
            Checks.house(x, "a");
            return x;
        }, x -> x.look(0, 0, 0, 0));
    }

    private static void leastLook(Edges e) {
        String[] own = {"box(pin;pin;)", "box(pin;)", "box(pin 1;)", "box(pin;)", "box(pin;pin;pin;)"};
        PretendDesk x = Desks.came("box(pin;)", "box(pin 1;)", "box(pin 2;)", "box(pin;pin;pin;)", "box;").make();
        for (int k = 0; k < 5; k++) {
            Checks.house(x, "a");
            Checks.own(x, k, own[k]);
        }
        int[] due = {1, 2, 1, 4, 1};
        for (int page = 0; page < 5; page++) {
            e.is("like(" + page + ", 0, 0)", x.like(page, 0, 0), due[page]);
        }
        Checks.own(x, 0, "box(pin;)");
        e.is("the first of three", x.like(0, 0, 0), 0);
        e.is("the first of four with LOOK 1", x.like(2, 0, 0), 0);
        Checks.own(x, 1, "link(text;text;text;)");
        e.is("a PAGE more that is farther", x.like(0, 0, 0), 0);
    }

    private static void likeOfThese(Edges e) {
        PretendDesk x = Desks.FULL.make();
        int[] due = {0, 0, 1, 1, 2, 2, 3, 2, 4, 4};
        for (int page = 0; page < 10; page++) {
            int like = x.like(page, 0, 0);
            e.is("LOOK at LIKE of " + page, x.look(page, like, 0, 0), 0);
            e.is("like(" + page + ", 0, 0)", like, page == 7 ? 3 : due[page]);
        }
        x = Desks.RICH.make();
        e.is("like(0, 0, 0)", x.like(0, 0, 0), 0);
        e.is("like(1, 0, 0)", x.like(1, 0, 0), 1);
    }

    private static void likeOfNone(Edges e) {
        e.range("like(page, 0, 0) of 5", 0, 4, -1, Desks.RICH, (x, n) -> x.like(n, 0, 0));
        e.range("like(page, 0, 0) of 10", 0, 9, -1, Desks.FULL, (x, n) -> x.like(n, 0, 0));
        e.range("like(0, land, 0)", 0, 3, -1, Desks.RICH, (x, n) -> x.like(0, n, 0));
        e.range("like(0, 0, day)", 0, 99, -1, Desks.RICH, (x, n) -> x.like(0, 0, n));
    }

    private static void likeWithoutHouses(Edges e) {
        Edges.Maker none = Desks.came("box;", WIDE);
        e.refused("like(0, 0, 0)", -1, none, x -> x.like(0, 0, 0));
        e.refused("like(1, 3, 99)", -1, none, x -> x.like(1, 3, 99));
        PretendDesk x = none.make();
        Checks.house(x, "a");
        e.is("like(0, 0, 0) with one that has no PAGES", x.like(0, 0, 0), 0);
        Checks.house(x, "b");
        e.is("like(0, 0, 0) with two that have none", x.like(0, 0, 0), 0);
        Checks.own(x, 1, "link land 1;");
        e.is("like(0, 0, 0) with a PAGE of the second one", x.like(0, 0, 0), 1);
    }

    // ---- STRANGE

    private static PretendDesk houses(String... own) {
        PretendDesk x = new PretendDesk();
        for (int k = 0; k < own.length; k++) {
            Checks.house(x, "a");
            for (String text : own[k].isEmpty() ? new String[0] : own[k].split("&")) {
                Checks.own(x, k, text);
            }
        }
        return x;
    }

    private static void leastOfTwoHouses(Edges e) {
        e.is("not of two PAGES of one", houses("box;&box;", "box(pin;)").strange(), 2);
        e.is("the first PAGES", houses("box;&link(text;text;)", "box 1;&pin(card;card;card;)").strange(), 1);
        e.is("the second PAGES", houses("link(text;text;)&box;", "pin(card;card;card;)&box 1;").strange(), 1);
        e.is("the first one and the second", houses("box;&link(text;text;)", "pin(card;card;card;)&box 1;").strange(), 1);
        e.is("the last two of five", houses("link(text;text;)", "pin(card;card;card;)", "logo;", "box(form;)", "box(form;)").strange(), 0);
        e.is("the first one and the last", houses("box(form;)", "pin(card;card;card;)", "logo;", "", "box(form;)").strange(), 0);
        e.is("the most", houses(WIDE, "pin land 1;").strange(), 28);
    }

    private static void strangeOpened(Edges e) {
        e.is("by LAND 0", houses("box(pin land 1;card land 2;text land 3;)", "box(link land 0;)").strange(), 2);
        e.is("on DAY 0", houses("box(pin day 1;card day 99;)", "box(link day 0;)").strange(), 2);
        e.is("two empty ones", houses("box land 3;", "pin day 1;").strange(), 0);
    }

    private static void strange(Edges e) {
        e.is("strange()", Desks.RICH.make().strange(), 5);
        e.is("strange() of five", Desks.FULL.make().strange(), 2);
    }

    private static void strangeOfNone(Edges e) {
        e.refused("strange() without HOUSES", -1, Desks.NEW, PretendDesk::strange);
        e.refused("strange() with PAGES that came alone", -1, Desks.came("box;", "box;"), PretendDesk::strange);
        e.refused("strange() with one", -1, () -> houses("box;"), PretendDesk::strange);
        e.refused("strange() with one that has two PAGES", -1, () -> houses("box;&box;"), PretendDesk::strange);
        e.refused("strange() with five, the last one with PAGES", -1, () -> houses("", "", "", "", "box;&box;"), PretendDesk::strange);
        e.refused("strange() with five, the first one with PAGES", -1, () -> houses("box;&box;", "", "", "", ""), PretendDesk::strange);
        e.refused("strange() with five without PAGES", -1, () -> houses("", "", "", "", ""), PretendDesk::strange);
        e.is("strange() with two that have PAGES", houses("", "box;", "", "box 1;", "").strange(), 1);
        e.is("strange() with the last two", houses("", "", "", "box;", "box 1;").strange(), 1);
    }
}
