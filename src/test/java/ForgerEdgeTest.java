/** The edges of promises 28 to 30: change, pass, met; of a FORGER's CHANGES, PASS and MET. */
public final class ForgerEdgeTest {
    /** LOOK 2 at HOUSE 0, ASK 50, no NAME: a CRY until AGE is 31. */
    private static final Edges.Maker CRYING = Desks.bank("box(logo;pass;)", "box(logo;pass;link;)");
    /** The farthest of all: 14 BOXES and 14, no two of them alike. ASK is 780. */
    private static final Edges.Maker FARTHEST = Desks.bank("box 1(" + "pin 1;".repeat(13) + ")", "form 2(" + "card 2;".repeat(13) + ")");
    /** CRYING with a CHANGE of each sort: the link out at 7, the link of COLOUR 3 at 9, 31 DAYS at 20. */
    private static final Edges.Maker FORGED = () -> {
        PretendDesk x = CRYING.make();
        x.change(0, 0, 3, 0, 7);
        x.change(0, 1, 3, 3, 9);
        x.change(0, 2, 0, 31, 20);
        return x;
    };

    public static void main(String[] args) {
        Edges.run("ForgerEdgeTest", ForgerEdgeTest::sentences);
    }

    static void sentences(Edges e) {
        e.of("Term 3", "FORGER of a PAGE, opened by LAND 0 on a DAY:", ForgerEdgeTest::openedByLand0);
        e.of("Term 3", "CHANGES, at most 6 of a PAGE, from 0 on, each at a PRICE, 1 .. 99:", ForgerEdgeTest::atMost6);
        e.of("Term 3", "sort 0 a BOX of its text is taken out (as for FAR; then it hides nothing),", ForgerEdgeTest::takenOut);
        e.of("Term 3", "1 a BOX's COLOUR becomes another one (n),", ForgerEdgeTest::anotherColour);
        e.of("Term 3", "2 it waits n DAYS more (all together; AGE alone grows);", ForgerEdgeTest::waits);
        e.of("Term 3", "of one COLOUR the later CHANGE counts.", ForgerEdgeTest::laterCounts);
        e.of("Term 3", "(BOXES of the text are numbered from 0 on, as they come.)", ForgerEdgeTest::numberedAsTheyCome);
        e.of("Promise 28", "A CHANGE of a FORGER: its number.", ForgerEdgeTest::change);
        e.of("Promise 28", "NONE: the PAGE has 6,", ForgerEdgeTest::changeWhen6);
        e.of("Promise 28", "there is none such (of any),", ForgerEdgeTest::changeOfNone);
        e.of("Promise 28", "or other numbers (n: sort 0 counts for nothing, 1 a COLOUR, 2 0 .. 99, BOX counts for nothing).",
                ForgerEdgeTest::changeOtherNumbers);
        passes(e);
    }

    private static void passes(Edges e) {
        e.of("Term 3", "PASS: those whose PRICE together is least, by which SAY is no CRY,", ForgerEdgeTest::leastPrice);
        e.of("Term 3", "though still LOOK at LIKE is k at most and ASK w at least", ForgerEdgeTest::stillLooksAndAsks);
        e.of("Term 3", "(none are PRICE 0);", ForgerEdgeTest::noneArePrice0);
        e.of("Term 3", "of several the fewest;", ForgerEdgeTest::ofSeveralTheFewest);
        e.of("Term 3", "then the least set (bits).", ForgerEdgeTest::leastSet);
        e.of("Promise 29", "PASS on a DAY with k, 0 .. 99, and w, 0 .. 999, what 0: PRICE, 1: the set, 2: SAY then.",
                ForgerEdgeTest::pass);
        e.of("Promise 29", "NONE: there is none,", ForgerEdgeTest::passIsNone);
        e.of("Promise 29", "there is none such (of any), or for another what.", ForgerEdgeTest::passOfNone);
        e.of("Term 3", "MET: the least a, from 0 on to 60, by which, as MARK in place of that told, no PASS is there",
                ForgerEdgeTest::leastA);
        e.of("Term 3", "(NONE: there is one with each).", ForgerEdgeTest::oneWithEach);
        e.of("Promise 30", "MET.", ForgerEdgeTest::met);
        e.of("Promise 30", "NONE: as told, or there is none such (of any).", ForgerEdgeTest::metOfNone);
    }

    private static void due(Edges e, PretendDesk x, int day, int k, int w, int price, int set, int say) {
        String by = "pass(0, " + day + ", " + k + ", " + w + ", ";
        e.is(by + "0)", x.pass(0, day, k, w, 0), price);
        e.is(by + "1)", x.pass(0, day, k, w, 1), set);
        e.is(by + "2)", x.pass(0, day, k, w, 2), say);
    }

    private static void none(Edges e, PretendDesk x, int day, int k, int w) {
        due(e, x, day, k, w, -1, -1, -1);
    }

    // ---- CHANGES

    private static void openedByLand0(Edges e) {
        PretendDesk x = Desks.bank("box(pass;pin land 0;link day 9;)", "box(pass;pin land 0;link land 1;)").make();
        Checks.name(x, 0, "bank");
        due(e, x, 0, 0, 120, 0, 0, 1);
        none(e, x, 0, 0, 121);
        due(e, x, 8, 0, 120, 0, 0, 1);
        none(e, x, 9, 1, 120);
        due(e, x, 9, 2, 120, 0, 0, 1);
        e.is("met(0, 99, 2, 120)", x.met(0, 99, 2, 120), -1);
        e.is("met(0, 99, 1, 120)", x.met(0, 99, 1, 120), 0);
    }

    private static void atMost6(Edges e) {
        PretendDesk x = Desks.came("box;", "box;").make();
        for (int k = 0; k < 6; k++) {
            e.is("count(10)", x.count(10), k);
            e.is("change", x.change(0, 2, 0, 1, k % 2 == 0 ? 1 : 99), k);
        }
        e.is("a 7th", x.change(0, 2, 0, 1, 1), -1);
        e.is("count(10)", x.count(10), 6);
        e.is("the first one of another PAGE", x.change(1, 2, 0, 1, 1), 0);
        e.is("count(11)", x.count(11), 1);
        // All six are needed, at the greatest PRICE.
        x = CRYING.make();
        x.marks(10, 40, 99);
        for (int k = 0; k < 6; k++) {
            none(e, x, 0, 99, 50);
            x.change(0, 2, 0, 17, 99);
        }
        due(e, x, 0, 99, 50, 594, 63, 1);
        due(e, x, 14, 99, 50, 594, 63, 1);
        e.is("five are enough on DAY 15", x.pass(0, 15, 99, 50, 0), 495);
        e.is("the least five", x.pass(0, 15, 99, 50, 1), 31);
    }

    private static void takenOut(Edges e) {
        PretendDesk x = Desks.bank("box(logo;pass;text;link;)", "box(logo;form 3 land 2 day 50(pass;text;)link;)").make();
        Checks.name(x, 0, "bank");
        none(e, x, 0, 3, 0);
        due(e, x, 0, 4, 0, 0, 0, 0);
        x.change(0, 0, 2, 0, 5);
        due(e, x, 0, 0, 50, 5, 1, 1);
        // Two in one another, both of which hide.
        x = Desks.bank("pass;", "box land 1(form day 9(pass;))").make();
        Checks.name(x, 0, "bank");
        x.change(0, 0, 0, 0, 1);
        x.change(0, 0, 1, 0, 2);
        due(e, x, 0, 0, 50, 3, 3, 1);
        due(e, x, 8, 0, 50, 3, 3, 1);
        due(e, x, 9, 2, 50, 1, 1, 1);
        due(e, x, 0, 2, 0, 0, 0, 0);
        // The first BOX: a row of trees is left, and a BOX put round them is 2.
        x = Desks.bank("box(pass;pin;)", "box 9(pass;pin;)").make();
        Checks.name(x, 0, "other");
        x.marks(1, 0, 99);
        x.change(0, 0, 0, 0, 4);
        due(e, x, 0, 2, 120, 4, 1, 1);
        none(e, x, 0, 1, 120);
        // The last BOX of 14; all of a PAGE.
        x = Desks.bank("box(" + "text;".repeat(12) + ")", "box(" + "text;".repeat(12) + "pin;)").make();
        x.change(0, 0, 13, 0, 6);
        due(e, x, 0, 0, 0, 6, 1, 1);
        x = Desks.bank("box;", "pin;").make();
        x.change(0, 0, 0, 0, 6);
        due(e, x, 0, 2, 0, 6, 1, 1);
        none(e, x, 0, 2, 1);
    }

    private static void anotherColour(Edges e) {
        for (int colour = 0; colour <= 9; colour++) {
            PretendDesk x = Desks.bank("box(pass " + colour + ";)", "box(pass " + (colour + 1) % 10 + ";)").make();
            Checks.name(x, 0, "bank");
            none(e, x, 0, 0, 0);
            x.change(0, 1, 1, (colour + 2) % 10, 1);
            none(e, x, 0, 0, 0);
            x.change(0, 1, 1, colour, 2);
            due(e, x, 0, 0, 50, 2, 2, 1);
        }
        PretendDesk x = Desks.bank("box 9(pass;)", "box(pass;)").make();
        Checks.name(x, 0, "bank");
        x.change(0, 1, 0, 9, 3);
        due(e, x, 0, 0, 50, 3, 1, 1);
    }

    private static void waits(Edges e) {
        for (int n : new int[] {0, 1, 30, 31, 98, 99}) {
            PretendDesk x = CRYING.make();
            x.change(0, 2, 0, n, 5);
            for (int day : new int[] {0, 1, 29, 30, 31, 99}) {
                if (day > 30) {
                    due(e, x, day, 2, 50, 0, 0, 1);
                } else if (day + n > 30) {
                    due(e, x, day, 2, 50, 5, 1, 1);
                } else {
                    none(e, x, day, 2, 50);
                }
            }
        }
        // All together: 15 and 15 are not 31, with one more they are.
        PretendDesk x = CRYING.make();
        x.change(0, 2, 0, 15, 1);
        x.change(0, 2, 0, 15, 1);
        none(e, x, 0, 2, 50);
        x.change(0, 2, 0, 1, 1);
        due(e, x, 0, 2, 50, 3, 7, 1);
        // AGE alone grows: what is shown from DAY 1 on is not there, for the HOUSE and for the PAGE.
        x = Desks.bank("box(logo;pass;text day 1;)", "box(logo;pass;pin day 1;)").make();
        x.change(0, 2, 0, 99, 5);
        due(e, x, 0, 0, 50, 5, 1, 1);
        none(e, x, 0, 0, 51);
        none(e, x, 1, 2, 50);
        due(e, x, 1, 3, 120, 5, 1, 1);
        // AGE is 0 before it stands, and grows from there.
        x = CRYING.make();
        x.stands(0, 50, 0);
        x.change(0, 2, 0, 31, 5);
        due(e, x, 0, 2, 50, 5, 1, 1);
        due(e, x, 80, 2, 50, 5, 1, 1);
        due(e, x, 81, 2, 50, 0, 0, 1);
    }

    private static void laterCounts(Edges e) {
        PretendDesk x = Desks.bank("box(pass 4;)", "box(pass 1;)").make();
        x.marks(0, 0, 99);
        x.change(0, 1, 1, 4, 1);
        x.change(0, 1, 1, 7, 1);
        e.is("LOOK 1 by none, by the second, by both", x.met(0, 0, 99, 0), 1);
        due(e, x, 0, 1, 0, 0, 0, 1);
        none(e, x, 0, 0, 0);
        Checks.name(x, 0, "bank");
        due(e, x, 0, 0, 0, 1, 1, 1);
        x.change(0, 1, 0, 2, 1);
        x.change(0, 1, 0, 0, 1);
        due(e, x, 0, 0, 0, 1, 1, 1);
    }

    private static void numberedAsTheyCome(Edges e) {
        String text = "box(form(pass;card(pin;))logo(text;link;))";
        String[] without = {"", "box(pass;card(pin;)logo(text;link;))", "box(form(card(pin;))logo(text;link;))",
            "box(form(pass;pin;)logo(text;link;))", "box(form(pass;card;)logo(text;link;))", "box(form(pass;card(pin;))text;link;)",
            "box(form(pass;card(pin;))logo(link;))", "box(form(pass;card(pin;))logo(text;))"};
        for (int box = 1; box < 8; box++) {
            PretendDesk x = Desks.bank(without[box], text).make();
            Checks.name(x, 0, "bank");
            none(e, x, 0, 0, 0);
            x.change(0, 0, box, 0, 1);
            e.is("BOX " + box + " is out, pass", x.pass(0, 0, 0, 0, 1), 1);
        }
        PretendDesk x = Desks.bank("box(pin land 1;card 5;)", "box(pin land 1;card;)").make();
        Checks.name(x, 0, "bank");
        x.change(0, 1, 1, 5, 1);
        none(e, x, 0, 0, 0);
        x.change(0, 1, 2, 5, 2);
        due(e, x, 0, 0, 0, 2, 2, 1);
    }

    // ---- promise 28

    private static void change(Edges e) {
        PretendDesk x = Desks.RICH.make();
        e.is("the PAGE has 3", x.change(0, 0, 0, 0, 1), 3);
        e.is("the PAGE has 1", x.change(1, 1, 3, 9, 99), 1);
        e.is("the PAGE has none", x.change(4, 2, 0, 99, 99), 0);
        e.is("count(10)", x.count(10), 4);
        x = Desks.FULL.make();
        e.is("the last PAGE", x.change(9, 0, 3, 0, 99), 0);
    }

    private static void changeWhen6(Edges e) {
        e.refused("change(0, 0, 0, 0, 1), a 7th", -1, Desks.FULL, x -> x.change(0, 0, 0, 0, 1));
        e.refused("change(0, 1, 0, 0, 1), a 7th", -1, Desks.FULL, x -> x.change(0, 1, 0, 0, 1));
        e.refused("change(0, 2, 0, 0, 1), a 7th", -1, Desks.FULL, x -> x.change(0, 2, 0, 0, 1));
        e.is("another PAGE", Desks.FULL.make().change(1, 0, 0, 0, 1), 0);
    }

    private static void changeOfNone(Edges e) {
        for (int sort = 0; sort < 3; sort++) {
            int it = sort;
            e.range("change(page, " + sort + ", 0, 0, 1) of 5", 0, 4, -1, Desks.RICH, (x, n) -> x.change(n, it, 0, 0, 1));
            e.refused("change(10, " + sort + ", 0, 0, 1) of 10", -1, Desks.FULL, x -> x.change(10, it, 0, 0, 1));
            e.refused("change(0, " + sort + ", 0, 0, 1) of none", -1, Desks.NEW, x -> x.change(0, it, 0, 0, 1));
        }
        e.range("change(0, sort, 0, 0, 1)", 0, 2, -1, Desks.RICH, (x, n) -> x.change(0, n, 0, 0, 1));
        // PAGE 0 has 7 BOXES, PAGE 4 has one.
        for (int sort = 0; sort < 2; sort++) {
            int it = sort;
            e.range("change(0, " + sort + ", box, 0, 1) of 7", 0, 6, -1, Desks.RICH, (x, n) -> x.change(0, it, n, 0, 1));
            e.range("change(4, " + sort + ", box, 0, 1) of 1", 0, 0, -1, Desks.RICH, (x, n) -> x.change(4, it, n, 0, 1));
            e.range("change(0, " + sort + ", box, 0, 1) of 14", 0, 13, -1, FARTHEST, (x, n) -> x.change(0, it, n, 0, 1));
        }
    }

    private static void changeOtherNumbers(Edges e) {
        for (int sort = 0; sort < 3; sort++) {
            int it = sort;
            e.range("change(0, " + sort + ", 0, 0, price)", 1, 99, -1, Desks.RICH, (x, n) -> x.change(0, it, 0, 0, n));
        }
        e.range("change(0, 1, 0, n, 1)", 0, 9, -1, Desks.RICH, (x, n) -> x.change(0, 1, 0, n, 1));
        e.range("change(0, 2, 0, n, 1)", 0, 99, -1, Desks.RICH, (x, n) -> x.change(0, 2, 0, n, 1));
        for (int n : new int[] {-1, 0, 9, 10, 99, 100, Integer.MIN_VALUE, Integer.MAX_VALUE}) {
            e.is("change(0, 0, 0, " + n + ", 1)", Desks.RICH.make().change(0, 0, 0, n, 1), 3);
            e.is("change(0, 2, " + n + ", 0, 1)", Desks.RICH.make().change(0, 2, n, 0, 1), 3);
        }
        e.is("the COLOUR that it has", Desks.RICH.make().change(0, 1, 0, 2, 1), 3);
    }

    // ---- PASS

    private static void leastPrice(Edges e) {
        PretendDesk x = FORGED.make();
        // Without the link it looks still more like it; it cries until it waits.
        due(e, x, 0, 99, 0, 20, 4, 1);
        x.marks(1, 40, 30);
        due(e, x, 0, 99, 0, 0, 0, 1);
        due(e, x, 0, 1, 0, 27, 5, 1);
        x.marks(10, 51, 30);
        due(e, x, 0, 99, 0, 0, 0, 1);
        x.marks(10, 50, 30);
        x.change(0, 0, 2, 0, 19);
        due(e, x, 0, 99, 0, 19, 8, 1);
        due(e, x, 0, 99, 1, 20, 4, 1);
        x.change(0, 2, 0, 16, 9);
        x.change(0, 2, 0, 15, 9);
        due(e, x, 0, 99, 1, 18, 48, 1);
    }

    private static void stillLooksAndAsks(Edges e) {
        PretendDesk x = FORGED.make();
        due(e, x, 0, 2, 50, 20, 4, 1);
        due(e, x, 0, 1, 50, 27, 5, 1);
        due(e, x, 0, 0, 50, 27, 5, 1);
        none(e, x, 0, 2, 51);
        x.worth(7, 1);
        due(e, x, 0, 2, 51, 20, 4, 1);
        none(e, x, 0, 1, 51);
        // LIKE is that of the changed PAGE.
        Checks.house(x, "link");
        Checks.own(x, 1, "box(logo;pass;link 3;)");
        Checks.name(x, 0, "bank");
        x.marks(10, 40, 30);
        due(e, x, 0, 0, 51, 29, 6, 1);
        due(e, x, 0, 0, 50, 7, 1, 1);
        due(e, x, 0, 1, 51, 20, 4, 1);
    }

    private static void noneArePrice0(Edges e) {
        PretendDesk x = FORGED.make();
        due(e, x, 31, 2, 50, 0, 0, 1);
        x.marks(1, 51, 30);
        due(e, x, 31, 2, 50, 0, 0, 0);
        x = CRYING.make();
        none(e, x, 30, 2, 50);
        due(e, x, 31, 2, 50, 0, 0, 1);
        Checks.name(x, 0, "bank");
        due(e, x, 0, 2, 50, 0, 0, 1);
    }

    private static void ofSeveralTheFewest(Edges e) {
        PretendDesk x = CRYING.make();
        x.change(0, 2, 0, 16, 2);
        x.change(0, 2, 0, 15, 2);
        due(e, x, 0, 2, 50, 4, 3, 1);
        x.change(0, 2, 0, 31, 4);
        due(e, x, 0, 2, 50, 4, 4, 1);
        x.change(0, 2, 0, 99, 5);
        due(e, x, 0, 2, 50, 4, 4, 1);
        x = CRYING.make();
        x.change(0, 2, 0, 11, 1);
        x.change(0, 2, 0, 11, 1);
        x.change(0, 2, 0, 11, 1);
        due(e, x, 0, 2, 50, 3, 7, 1);
        x.change(0, 2, 0, 20, 2);
        due(e, x, 0, 2, 50, 3, 9, 1);
        x.change(0, 2, 0, 31, 4);
        due(e, x, 0, 2, 50, 3, 9, 1);
    }

    private static void leastSet(Edges e) {
        PretendDesk x = CRYING.make();
        for (int k = 0; k < 6; k++) {
            x.change(0, 2, 0, k < 2 ? 30 : 31, 7);
        }
        due(e, x, 0, 2, 50, 7, 4, 1);
        due(e, x, 1, 2, 50, 7, 1, 1);
        x = CRYING.make();
        for (int k = 0; k < 6; k++) {
            x.change(0, 2, 0, k == 0 ? 1 : 16, 7);
        }
        due(e, x, 0, 2, 50, 14, 6, 1);
        due(e, x, 15, 2, 50, 7, 2, 1);
        due(e, x, 30, 2, 50, 7, 1, 1);
    }

    private static void pass(Edges e) {
        PretendDesk x = FARTHEST.make();
        none(e, x, 0, 55, 780);
        due(e, x, 0, 56, 780, 0, 0, 1);
        none(e, x, 0, 56, 781);
        due(e, x, 0, 99, 0, 0, 0, 1);
        none(e, x, 0, 99, 999);
        x.worth(3, 77);
        due(e, x, 0, 99, 999, 0, 0, 1);
        x.worth(3, 76);
        none(e, x, 0, 99, 999);
        x = Desks.bank("box;", "box;").make();
        Checks.name(x, 0, "bank");
        due(e, x, 99, 0, 0, 0, 0, 0);
        x = Desks.FULL.make();
        e.is("the last PAGE", x.pass(9, 0, 0, 0, 0), -1);
        Checks.name(x, 9, "house4");
        e.is("the last PAGE with the NAME of LIKE", x.pass(9, 0, 0, 210, 0), 0);
    }

    private static void passIsNone(Edges e) {
        for (int what = 0; what < 3; what++) {
            int asked = what;
            e.refused("pass by LOOK 2 with k 1, what " + what, -1, CRYING, x -> x.pass(0, 31, 1, 0, asked));
            e.refused("pass by ASK 50 with w 51, what " + what, -1, CRYING, x -> x.pass(0, 31, 2, 51, asked));
            e.refused("pass by a CRY, what " + what, -1, CRYING, x -> x.pass(0, 30, 2, 50, asked));
            e.refused("pass without HOUSES, what " + what, -1, Desks.came("box;"), x -> x.pass(0, 0, 99, 0, asked));
            e.refused("pass with HOUSES without PAGES, what " + what, -1, () -> {
                PretendDesk x = Desks.came("box;").make();
                Checks.house(x, "a");
                return x;
            }, x -> x.pass(0, 0, 99, 0, asked));
        }
    }

    private static void passOfNone(Edges e) {
        Edges.Maker all = () -> {
            PretendDesk x = FORGED.make();
            Checks.page(x, "box(logo;pass;)");
            Checks.name(x, 1, "bank");
            x.worth(0, 99);
            x.worth(2, 99);
            x.worth(5, 99);
            x.worth(7, 99);
            Checks.name(x, 0, "bank");
            return x;
        };
        e.range("pass(page, 0, 99, 0, 0) of 2", 0, 1, -1, all, (x, n) -> x.pass(n, 0, 99, 0, 0));
        e.range("pass(0, day, 99, 0, 0)", 0, 99, -1, all, (x, n) -> x.pass(0, n, 99, 0, 0));
        e.range("pass(1, 0, k, 0, 0)", 0, 99, -1, all, (x, n) -> x.pass(1, 0, n, 0, 0));
        e.range("pass(0, 0, 99, 0, what)", 0, 2, -1, all, (x, n) -> x.pass(0, 0, 99, 0, n));
        for (int w : new int[] {-1, 1000, 397, Integer.MIN_VALUE, Integer.MAX_VALUE}) {
            e.refused("pass(0, 0, 99, " + w + ", 0)", -1, all, x -> x.pass(0, 0, 99, w, 0));
        }
        e.is("pass(0, 0, 99, 396, 0)", all.make().pass(0, 0, 99, 396, 0), 0);
        e.refused("pass(10, 0, 99, 0, 0) of 10", -1, Desks.FULL, x -> x.pass(10, 0, 99, 0, 0));
        e.refused("pass(0, 0, 99, 0, 0) of none", -1, Desks.NEW, x -> x.pass(0, 0, 99, 0, 0));
        // w of 999 is taken, 1000 is not, of a PAGE that asks more than that.
        PretendDesk x = FARTHEST.make();
        x.worth(3, 99);
        e.is("ASK 1287 with w 999", x.pass(0, 0, 99, 999, 0), 0);
        e.is("ASK 1287 with w 1000", x.pass(0, 0, 99, 1000, 0), -1);
    }

    // ---- MET

    private static void leastA(Edges e) {
        PretendDesk x = CRYING.make();
        e.is("met by LOOK 2", x.met(0, 0, 99, 0), 2);
        e.is("k is 2", x.met(0, 0, 2, 0), 2);
        e.is("k is 1: no PASS is there with 0", x.met(0, 0, 1, 0), 0);
        e.is("w is 50", x.met(0, 0, 99, 50), 2);
        e.is("w is 51: no PASS is there with 0", x.met(0, 0, 99, 51), 0);
        for (int a : new int[] {0, 1, 2, 3, 60}) {
            x.marks(a, 40, 30);
            e.is("MARK " + a + " is told", x.met(0, 0, 99, 0), 2);
        }
        x.change(0, 1, 3, 5, 1);
        e.is("a COLOUR of a BOX that goes out is 0 more", x.met(0, 0, 99, 0), 2);
        x.change(0, 1, 2, 5, 1);
        e.is("a COLOUR of one that stays, 1 more", x.met(0, 0, 99, 0), 3);
        e.is("k is 2", x.met(0, 0, 2, 0), 2);
        e.is("the greatest that there is", FARTHEST.make().met(0, 0, 99, 0), 56);
        e.is("k is 56", FARTHEST.make().met(0, 0, 56, 780), 56);
        e.is("k is 55", FARTHEST.make().met(0, 0, 55, 780), 0);
        x = Desks.bank("box(pass;)", "box(pass;)").make();
        e.is("LOOK 0: with 0 there is none", x.met(0, 0, 99, 0), 0);
        e.is("no HOUSES: with 0 there is none", Desks.came("box;").make().met(0, 0, 99, 0), 0);
    }

    private static void oneWithEach(Edges e) {
        PretendDesk x = CRYING.make();
        e.is("AGE 30", x.met(0, 30, 99, 0), 2);
        e.is("AGE 31", x.met(0, 31, 99, 0), -1);
        x.marks(60, 50, 30);
        e.is("b is 50", x.met(0, 0, 99, 0), 2);
        x.marks(0, 51, 30);
        e.is("b is 51", x.met(0, 0, 99, 0), -1);
        x.marks(10, 40, 30);
        x.change(0, 2, 0, 30, 99);
        e.is("30 DAYS", x.met(0, 0, 99, 0), 2);
        e.is("31 DAYS", x.met(0, 1, 99, 0), -1);
        x.change(0, 2, 0, 1, 99);
        e.is("31 DAYS by two", x.met(0, 0, 99, 0), -1);
        Checks.name(x, 0, "bank");
        e.is("its NAME is that of LIKE", x.met(0, 0, 99, 0), -1);
        e.is("its NAME is that of LIKE, k is 1", x.met(0, 0, 1, 0), 0);
        x = FARTHEST.make();
        x.change(0, 2, 0, 31, 1);
        e.is("the farthest, which waits", x.met(0, 0, 56, 780), -1);
    }

    private static void met(Edges e) {
        PretendDesk x = Desks.RICH.make();
        e.is("met(1, 0, 99, 0), which can wait 50 DAYS", x.met(1, 0, 99, 0), -1);
        e.is("met(2, 0, 99, 0), LOOK 0", x.met(2, 0, 99, 0), 0);
        x = Desks.FULL.make();
        e.is("met(9, 99, 99, 0)", x.met(9, 99, 99, 0), -1);
        e.is("met(9, 0, 99, 999)", x.met(9, 0, 99, 999), 0);
    }

    private static void metOfNone(Edges e) {
        e.refused("met as told", -1, CRYING, x -> x.met(0, 31, 99, 0));
        Edges.Maker two = Desks.bank("box(logo;pass;)", "box(logo;pass;link;)", "box(logo;pass;)");
        e.range("met(page, 0, 99, 0) of 2", 0, 1, -1, two, (x, n) -> x.met(n, 0, 99, 0));
        e.range("met(1, 0, k, 0)", 0, 99, -1, two, (x, n) -> x.met(1, 0, n, 0));
        e.range("met(1, 0, 99, w)", 0, 999, -1, two, (x, n) -> x.met(1, 0, 99, n));
        Edges.Maker young = () -> {
            PretendDesk x = two.make();
            x.marks(10, 40, 99);
            return x;
        };
        e.range("met(0, day, 99, 0)", 0, 99, -1, young, (x, n) -> x.met(0, n, 99, 0));
        e.refused("met(10, 0, 99, 0) of 10", -1, Desks.FULL, x -> x.met(10, 0, 99, 0));
        e.refused("met(0, 0, 99, 0) of none", -1, Desks.NEW, x -> x.met(0, 0, 99, 0));
    }
}
