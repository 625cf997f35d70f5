import java.util.function.BiFunction;

/** The edges of promises 6, 7, 13 and 14: own, page, boxes, box; of a PAGE's text and its FAULTS; of OPENED. */
public final class PageEdgeTest {
    private static final String[] KINDS = {"box", "form", "pass", "card", "pin", "logo", "text", "link"};
    private static final Edges.Maker HOUSE = () -> {
        PretendDesk x = new PretendDesk();
        Checks.house(x, "bank");
        return x;
    };
    private static final Edges.Maker NINE = () -> came(9);
    private static final Edges.Maker TEN = () -> came(10);

    public static void main(String[] args) {
        Edges.run("PageEdgeTest", PageEdgeTest::sentences);
    }

    static void sentences(Edges e) {
        e.of("Term 1", "A PAGE is a tree of BOXES, at most 14, at most 6 deep.", PageEdgeTest::most14And6Deep);
        e.of("Term 1", "KINDS of BOXES: 0 box, 1 form, 2 pass, 3 card, 4 pin, 5 logo, 6 text, 7 link;", PageEdgeTest::kinds);
        e.of("Term 1", "each has a COLOUR, 0 .. 9 (0 without).", PageEdgeTest::colours);
        e.of("Term 1", "TOKENS, as long as they go, blanks (10, 32) between:", PageEdgeTest::blanks);
        e.of("Term 1", "words, rows of letters a .. z;", PageEdgeTest::words);
        e.of("Term 1", "NUMBERS, 1 to 4 digits;", PageEdgeTest::numbers);
        e.of("Term 1", "signs ( ) ; one byte each.", PageEdgeTest::signs);
        e.of("Term 1", "A PAGE's text is one BOX:", PageEdgeTest::oneBox);
        e.of("Term 1", "KIND [NUMBER] ['land' NUMBER] ['day' NUMBER] ('(' {BOX} ')' | ';')", PageEdgeTest::heads);
        e.of("Term 1", "(KIND: its word; its COLOUR; the LAND to which alone it is shown; the DAY from which on it is; "
                + "the BOXES in it, in their order).", PageEdgeTest::whatAHeadTells);
        faults(e);
        opened(e);
        promises(e);
    }

    private static void faults(Edges e) {
        e.of("Term 1", "FAULTS of a PAGE, with places (a token's first byte; the end's):", PageEdgeTest::places);
        e.of("Term 1", "1 the first byte or token with which no text goes on", PageEdgeTest::stuck);
        e.of("Term 1", "(a longer row of digits is no token).", PageEdgeTest::longerRow);
        e.of("Term 1", "If there is none, the first by place,", PageEdgeTest::firstByPlace);
        e.of("Term 1", "of one place the least:", PageEdgeTest::leastOfOnePlace);
        e.of("Term 1", "2 a NUMBER that can't be (COLOUR 0 .. 9; LAND 0 .. 3; DAY 0 .. 99);", PageEdgeTest::numberThatCantBe);
        e.of("Term 1", "3 a 15th BOX,", PageEdgeTest::box15);
        e.of("Term 1", "4 a BOX within six others, at its word.", PageEdgeTest::withinSix);
    }

    private static void opened(Edges e) {
        e.of("Term 1", "OPENED by a PERSON (LAND 0 .. 3, DAY 0 .. 99):", PageEdgeTest::persons);
        e.of("Term 1", "BOXES that are not shown to that LAND, or not yet, are not there, nor what is in them.",
                PageEdgeTest::notShown);
        e.of("Term 1", "(A PAGE may be empty so.)", PageEdgeTest::emptySo);
    }

    private static void promises(Edges e) {
        e.of("Promise 6", "The tape is taken (and is empty then), as a PAGE of a HOUSE: how many it has.", PageEdgeTest::ownTaken);
        e.of("Promise 6", "NONE: a FAULT.", PageEdgeTest::ownFault);
        e.of("Promise 6", "-2: there is none such, or it has 2 (the tape is empty then, too; no text is read, FAULT 0).",
                PageEdgeTest::ownOfNone);
        e.of("Promise 7", "The tape is taken (and is empty then), as a PAGE that came: its number.", PageEdgeTest::pageTaken);
        e.of("Promise 7", "NONE: a FAULT.", PageEdgeTest::pageFault);
        e.of("Promise 7", "-2: there are 10 (the tape is empty then, too; no text is read, FAULT 0).", PageEdgeTest::pageWhenTen);
        e.of("Promise 13", "How many BOXES a PAGE has, opened.", PageEdgeTest::boxes);
        e.of("Promise 13", "NONE: there is none such (of any).", PageEdgeTest::boxesOfNone);
        e.of("Promise 14", "Of BOX k of a PAGE's text, what 0: KIND, 1: COLOUR, 2: the BOX that it is in (NONE: the first one), "
                + "3: LAND (NONE: all), 4: DAY (0 without).", PageEdgeTest::box);
        e.of("Promise 14", "-2: there is none such, or for another what.", PageEdgeTest::boxOfNone);
    }

    private static PretendDesk came(int n) {
        PretendDesk x = new PretendDesk();
        for (int k = 0; k < n; k++) {
            Checks.page(x, "pin " + k + ";");
        }
        return x;
    }

    /** A box with n pins in it, with a head told for each place. */
    private static String wide(int pins, String last) {
        return "box(" + "pin;".repeat(pins) + last + ")";
    }

    private static String deep(int n, String last) {
        return "box(".repeat(n) + last + ")".repeat(n);
    }

    private static void good(Edges e, String text, int boxes) {
        PretendDesk x = HOUSE.make();
        e.is("page of '" + text + "'", Checks.page(x, text), 0);
        e.fault("page of '" + text + "'", x, 0, -1);
        e.is("boxes of '" + text + "'", x.boxes(0, 3, 99), boxes);
        e.is("own of '" + text + "'", Checks.own(x, 0, text), 1);
        e.fault("own of '" + text + "'", x, 0, -1);
        e.is("look at its own '" + text + "'", x.look(0, 0, 3, 99), 0);
    }

    private static void bad(Edges e, String text, int fault, int place) {
        PretendDesk x = HOUSE.make();
        e.is("page of '" + text + "'", Checks.page(x, text), -1);
        e.fault("page of '" + text + "'", x, fault, place);
        e.empty("page of '" + text + "'", x);
        e.is("count(1)", x.count(1), 0);
        e.is("own of '" + text + "'", Checks.own(x, 0, text), -1);
        e.fault("own of '" + text + "'", x, fault, place);
        e.empty("own of '" + text + "'", x);
        e.is("count(20)", x.count(20), 0);
    }

    // ---- the text

    private static void most14And6Deep(Edges e) {
        good(e, "box;", 1);
        good(e, wide(12, ""), 13);
        good(e, wide(13, ""), 14);
        bad(e, wide(14, ""), 3, 56);
        good(e, deep(4, "pin;"), 5);
        good(e, deep(5, "pin;"), 6);
        good(e, deep(6, ""), 6);
        bad(e, deep(6, "pin;"), 4, 24);
        good(e, "box(" + deep(4, "pin;") + deep(4, "pin;") + ")", 11);
        good(e, "box(" + deep(4, "pin;pin;") + deep(4, "pin;pin;") + "pin;)", 14);
    }

    private static void kinds(Edges e) {
        for (int k = 0; k < KINDS.length; k++) {
            PretendDesk x = new PretendDesk();
            e.is(KINDS[k], Checks.page(x, KINDS[k] + "(" + KINDS[7 - k] + ";)"), 0);
            e.is("KIND of the first " + KINDS[k], x.box(0, 0, 0), k);
            e.is("KIND of the second", x.box(0, 1, 0), 7 - k);
        }
        for (String none : new String[] {"land", "day", "to", "read", "stop", "boxe", "bo", "boxx", "linkk", "lin", "a", "z"}) {
            bad(e, none + ";", 1, 0);
        }
    }

    private static void colours(Edges e) {
        for (int colour = 0; colour <= 9; colour++) {
            PretendDesk x = new PretendDesk();
            e.is("COLOUR " + colour, Checks.page(x, "box " + colour + "(pin;)"), 0);
            e.is("COLOUR " + colour, x.box(0, 0, 1), colour);
            e.is("COLOUR without", x.box(0, 1, 1), 0);
        }
        bad(e, "box 10;", 2, 4);
        bad(e, "box 11;", 2, 4);
        bad(e, "box(pin 10;)", 2, 8);
        PretendDesk x = new PretendDesk();
        Checks.page(x, "box;");
        e.is("COLOUR without", x.box(0, 0, 1), 0);
    }

    private static void blanks(Edges e) {
        good(e, "box 1 land 3 day 2 ( pin ; ) ", 2);
        good(e, "\nbox\n1\nland\n3\nday\n2\n(\npin\n;\n)\n", 2);
        good(e, "box1land3day2(pin;)", 2);
        good(e, "  \n \n  box  \n;\n\n ", 1);
        for (int sign = 0; sign < 256; sign++) {
            String text = "box" + (char) sign + ";";
            if (sign == 10 || sign == 32) {
                good(e, text, 1);
            } else if ((sign < 'a' || sign > 'z') && (sign < '0' || sign > '9') && sign != '(' && sign != ';') {
                bad(e, text, 1, 3);
            }
        }
        bad(e, "bo x;", 1, 0);
        bad(e, "box 1 0;", 1, 6);
        bad(e, "box lan d 1;", 1, 4);
        bad(e, "boxpin;", 1, 0);
        bad(e, "boxland 1;", 1, 0);
    }

    private static void words(Edges e) {
        for (int sign = 0; sign < 256; sign++) {
            boolean letter = sign >= 'a' && sign <= 'z';
            String text = "box;" + (char) sign + "a";
            // A letter more is one word with it, at its place; a blank is passed over.
            int place = sign == 10 || sign == 32 ? 5 : 4;
            bad(e, text, 1, place);
            if (letter) {
                bad(e, "box" + (char) sign + ";", 1, 0);
            }
        }
        bad(e, "Box;", 1, 0);
        bad(e, "boX;", 1, 0);
        bad(e, "{box;", 1, 0);
        bad(e, "`box;", 1, 0);
        bad(e, "box{;", 1, 3);
        bad(e, "box`;", 1, 3);
    }

    private static void numbers(Edges e) {
        String[] nines = {"9", "09", "009", "0009"};
        String[] threes = {"3", "03", "003", "0003"};
        for (int k = 0; k < 4; k++) {
            good(e, "box " + nines[k] + " land " + threes[k] + " day " + nines[k] + ";", 1);
            PretendDesk x = new PretendDesk();
            Checks.page(x, "box " + nines[k] + " land " + threes[k] + " day " + nines[k] + ";");
            e.is("COLOUR " + nines[k], x.box(0, 0, 1), 9);
            e.is("LAND " + threes[k], x.box(0, 0, 3), 3);
            e.is("DAY " + nines[k], x.box(0, 0, 4), 9);
        }
        good(e, "box 0000;", 1);
        bad(e, "box 00000;", 1, 4);
        bad(e, "box 00009;", 1, 4);
        bad(e, "box 9999;", 2, 4);
        bad(e, "box 10000;", 1, 4);
        bad(e, "box /;", 1, 4);
        bad(e, "box :;", 1, 4);
        bad(e, "box 1/;", 1, 5);
        bad(e, "box 1:;", 1, 5);
    }

    private static void signs(Edges e) {
        good(e, "box()", 1);
        bad(e, "box(()", 1, 4);
        bad(e, "box())", 1, 5);
        bad(e, "box;;", 1, 4);
        bad(e, "box(;)", 1, 4);
        bad(e, "box(pin;;)", 1, 8);
        bad(e, "box[]", 1, 3);
        bad(e, "box<;", 1, 3);
        bad(e, "box'", 1, 3);
        bad(e, "box*", 1, 3);
        bad(e, "box:", 1, 3);
    }

    private static void oneBox(Edges e) {
        bad(e, "", 1, 0);
        good(e, "box;", 1);
        bad(e, "box;box;", 1, 4);
        bad(e, "box()box()", 1, 5);
        bad(e, "()", 1, 0);
        bad(e, ";", 1, 0);
        bad(e, "1;", 1, 0);
        bad(e, "land 1;", 1, 0);
    }

    private static void heads(Edges e) {
        for (int with = 0; with < 8; with++) {
            String head = "box" + ((with & 1) != 0 ? " 4" : "") + ((with & 2) != 0 ? " land 3" : "")
                    + ((with & 4) != 0 ? " day 7" : "");
            good(e, head + ";", 1);
            good(e, head + "()", 1);
            good(e, head + "(pin;)", 2);
            good(e, head + "(pin;" + head + "(pin;))", 4);
            bad(e, head, 1, head.length());
            bad(e, head + ")", 1, head.length());
            bad(e, head + " day 1 day 1;", 1, head.length() + ((with & 4) != 0 ? 1 : 7));
            bad(e, head + " pin;", 1, head.length() + 1);
        }
        bad(e, "box land;", 1, 8);
        bad(e, "box day;", 1, 7);
        bad(e, "box land(;)", 1, 8);
        bad(e, "box land day 1;", 1, 9);
        bad(e, "box day land 1;", 1, 8);
        bad(e, "box day 1 land 1;", 1, 10);
        bad(e, "box land 1 1;", 1, 11);
        bad(e, "box 1 1;", 1, 6);
        bad(e, "box day 1 1;", 1, 10);
        bad(e, "1 box;", 1, 0);
        bad(e, "box(pin;);", 1, 9);
        bad(e, "box(pin)", 1, 7);
        bad(e, "box(1;)", 1, 4);
        bad(e, "box(land 1;)", 1, 4);
    }

    private static void whatAHeadTells(Edges e) {
        PretendDesk x = new PretendDesk();
        Checks.page(x, "link 9 land 3 day 99(card;pin 1;text land 0;logo day 0;form day 1(box;pass 0;))");
        int[][] due = {{7, 9, -1, 3, 99}, {3, 0, 0, -1, 0}, {4, 1, 0, -1, 0}, {6, 0, 0, 0, 0}, {5, 0, 0, -1, 0},
            {1, 0, 0, -1, 1}, {0, 0, 5, -1, 0}, {2, 0, 5, -1, 0}};
        for (int k = 0; k < due.length; k++) {
            for (int what = 0; what < 5; what++) {
                e.is("box(0, " + k + ", " + what + ")", x.box(0, k, what), due[k][what]);
            }
        }
        e.is("to its LAND alone, on its DAY", x.boxes(0, 3, 99), 7);
        e.is("to its LAND alone, a day before", x.boxes(0, 3, 98), 0);
        e.is("to another LAND", x.boxes(0, 2, 99), 0);
    }

    // ---- FAULTS

    private static void places(Edges e) {
        bad(e, "   box  10 ;", 2, 8);
        bad(e, "\n\nbox\n\npin;", 1, 7);
        bad(e, "box   ", 1, 6);
        bad(e, "box \n", 1, 5);
        bad(e, "   ", 1, 3);
        bad(e, "box land  99;", 2, 10);
        bad(e, "box( pin; pin", 1, 13);
        bad(e, wide(13, " pin;"), 3, 57);
        bad(e, deep(6, " pin;"), 4, 25);
        String blanks = " ".repeat(474);
        bad(e, blanks + "box 10", 1, 480);
        bad(e, blanks + "box10;", 2, 477);
        bad(e, blanks + "box;;;", 1, 478);
        PretendDesk x = new PretendDesk();
        for (int k = 0; k < 25; k++) {
            x.feed(0x20202020, 0x20202020, 0x20202020, 0x20202020, k < 24 ? 0x20202020 : 0x20626F78);
        }
        e.is("a text of 500 bytes without its last sign", x.page(), -1);
        e.fault("a text of 500 bytes without its last sign", x, 1, 500);
    }

    /** Every start of a good text, and every byte of it another one, as the plain Model has it. */
    private static void stuck(Edges e) {
        String[] texts = {"box 2 land 1 day 20(pin 1;form(card day 5;link;)logo land 3())", "link9land3day99(text;)",
            " form\n(\n)", wide(13, ""), deep(5, "pin 0(pin;)")};
        String signs = "\0\t\n\r !'()*+,-./0123456789:;<=>?@AZ[`abdfgklmnotxyz{\177\200\240\377";
        for (String text : texts) {
            Checks.others(text, signs, other -> asModel(e, other));
        }
        bad(e, "box 10 ?", 1, 7);
        bad(e, "box land 9 day 999(pin 99;", 1, 26);
        bad(e, wide(20, "?"), 1, 84);
        bad(e, "box(".repeat(9) + ";", 1, 36);
    }

    private static void asModel(Edges e, String text) {
        PretendDesk x = new PretendDesk();
        Model due = new Model();
        Checks.tell(x, text);
        Checks.tell(due, text);
        e.is("page of '" + text + "'", x.page(), due.page());
        e.fault("page of '" + text + "'", x, due.fault(0), due.fault(1));
    }

    private static void longerRow(Edges e) {
        for (String head : new String[] {"box ", "box land ", "box day ", "box 1 land 3 day "}) {
            good(e, head + "0003;", 1);
            bad(e, head + "00003;", 1, head.length());
            bad(e, head + "00000;", 1, head.length());
            bad(e, head + "0".repeat(300) + ";", 1, head.length());
        }
        bad(e, "box 4294967297;", 1, 4);
        bad(e, "12345", 1, 0);
        bad(e, "box 10(pin 12345;)", 1, 11);
    }

    private static void firstByPlace(Edges e) {
        bad(e, "box 10 land 4 day 100;", 2, 4);
        bad(e, "box land 4 day 100;", 2, 9);
        bad(e, "box(pin;pin 10;pin 11;)", 2, 12);
        bad(e, wide(12, "pin 10;pin;"), 2, 56);
        bad(e, wide(13, "pin 10;"), 3, 56);
        bad(e, deep(5, "box 10(pin;)"), 2, 24);
        bad(e, deep(6, "pin 10;"), 4, 24);
        // The 15th one before the one within six others, and the other way round.
        bad(e, "box(" + "pin;".repeat(13) + deep(5, "pin;") + ")", 3, 56);
        bad(e, "box(" + deep(5, "pin;") + "pin;".repeat(13) + ")", 4, 24);
        bad(e, wide(13, "pin;pin;pin;"), 3, 56);
        bad(e, deep(6, "pin;pin;"), 4, 24);
        bad(e, deep(8, "pin;"), 4, 24);
    }

    private static void leastOfOnePlace(Edges e) {
        // The 15th BOX is within six others: 3. The 14th one is: 4.
        bad(e, "box(" + "pin;".repeat(8) + deep(5, "pin;") + ")", 3, 56);
        bad(e, "box(" + "pin;".repeat(7) + deep(5, "pin;") + ")", 4, 52);
        bad(e, "box(" + "pin;".repeat(9) + deep(5, "pin;") + ")", 3, 56);
    }

    private static void numberThatCantBe(Edges e) {
        BiFunction<String, Integer, String> text = (word, n) -> "box" + word + n + ";";
        String[] words = {" ", " land ", " day "};
        int[] most = {9, 3, 99};
        for (int k = 0; k < 3; k++) {
            int place = 3 + words[k].length();
            good(e, text.apply(k == 1 ? " land 3 day " : words[k], 0), 1);
            if (k == 1) {
                for (int land = 0; land <= 3; land++) {
                    PretendDesk x = new PretendDesk();
                    e.is("LAND " + land, Checks.page(x, text.apply(words[k], land)), 0);
                    e.is("LAND " + land, x.box(0, 0, 3), land);
                }
            } else {
                good(e, text.apply(words[k], most[k]), 1);
            }
            bad(e, text.apply(words[k], most[k] + 1), 2, place);
            bad(e, text.apply(words[k], most[k] + 2), 2, place);
            bad(e, text.apply(words[k], 256), 2, place);
            bad(e, text.apply(words[k], 1000), 2, place);
            bad(e, text.apply(words[k], 9999), 2, place);
        }
    }

    private static void box15(Edges e) {
        good(e, wide(13, ""), 14);
        bad(e, wide(13, "pin;"), 3, 56);
        bad(e, wide(13, "\n pin;"), 3, 58);
        bad(e, wide(14, "pin;"), 3, 56);
        bad(e, wide(13, "pin(pin;)"), 3, 56);
        bad(e, wide(100, ""), 3, 56);
        good(e, "box(pin(pin;)pin(pin;)pin(pin;)pin(pin;)pin(pin;)pin(pin;)pin;)", 14);
        bad(e, "box(pin(pin;)pin(pin;)pin(pin;)pin(pin;)pin(pin;)pin(pin;)pin(pin;))", 3, 62);
    }

    private static void withinSix(Edges e) {
        for (String kind : KINDS) {
            good(e, deep(5, kind + ";"), 6);
            bad(e, deep(6, kind + ";"), 4, 24);
        }
        bad(e, deep(5, "pin(" + "link;)"), 4, 24);
        good(e, deep(5, "pin;link;text()"), 8);
        bad(e, deep(5, "pin;link;text(box;)"), 4, 34);
        bad(e, deep(7, ""), 4, 24);
        bad(e, deep(50, ""), 4, 24);
    }

    // ---- OPENED

    private static void persons(Edges e) {
        Edges.Maker maker = Desks.came("box(pin land 0;card land 3;text day 0;link day 99;)");
        e.range("boxes(0, land, 0)", 0, 3, -1, maker, (x, n) -> x.boxes(0, n, 0));
        e.range("boxes(0, 0, day)", 0, 99, -1, maker, (x, n) -> x.boxes(0, 0, n));
        PretendDesk x = maker.make();
        int[][] due = {{0, 0, 3}, {1, 0, 2}, {2, 0, 2}, {3, 0, 3}, {0, 98, 3}, {0, 99, 4}, {1, 99, 3}, {3, 98, 3}, {3, 99, 4}};
        for (int[] d : due) {
            e.is("boxes(0, " + d[0] + ", " + d[1] + ")", x.boxes(0, d[0], d[1]), d[2]);
        }
    }

    private static void notShown(Edges e) {
        PretendDesk x = new PretendDesk();
        Checks.page(x, "box(form land 1(pass;pass land 2;)form day 50(pin;pin day 51;)form land 2 day 50(card;))");
        int[][] due = {{0, 0, 1}, {0, 49, 1}, {0, 50, 3}, {0, 51, 4}, {1, 49, 3}, {1, 50, 5}, {1, 99, 6}, {2, 49, 1},
            {2, 50, 5}, {2, 51, 6}, {3, 99, 4}};
        for (int[] d : due) {
            e.is("boxes(0, " + d[0] + ", " + d[1] + ")", x.boxes(0, d[0], d[1]), d[2]);
        }
        for (int land = 0; land < 4; land++) {
            for (int day = 0; day < 100; day++) {
                PretendDesk y = Desks.came("box(pin land " + land + " day " + day + "(text;))").make();
                e.is("on its DAY " + day, y.boxes(0, land, day), 3);
                e.is("on the last DAY", y.boxes(0, land, 99), 3);
                e.is("to the next LAND", y.boxes(0, (land + 1) % 4, day), 1);
                e.is("a DAY before", day == 0 ? 1 : y.boxes(0, land, day - 1), 1);
            }
        }
    }

    private static void emptySo(Edges e) {
        PretendDesk x = Desks.came("box land 1(pin;pin;)", "box day 99(pin;)", "box;").make();
        e.is("another LAND", x.boxes(0, 0, 99), 0);
        e.is("its LAND", x.boxes(0, 1, 0), 3);
        e.is("a DAY before", x.boxes(1, 0, 98), 0);
        e.is("its DAY", x.boxes(1, 0, 99), 2);
        e.is("two empty ones", x.far(0, 1, 0, 0), 0);
        e.is("an empty one and one BOX", x.far(0, 2, 0, 0), 2);
        e.is("what it asks", x.asks(0, 0, 0), 0);
    }

    // ---- promises 6 and 7

    private static void ownTaken(Edges e) {
        PretendDesk x = new PretendDesk();
        for (int k = 0; k < 5; k++) {
            Checks.house(x, "a");
        }
        for (int k : new int[] {0, 4, 2}) {
            e.is("count(" + (20 + k) + ")", x.count(20 + k), 0);
            e.is("own(" + k + "), the first", Checks.own(x, k, wide(13, "")), 1);
            e.empty("own", x);
            e.fault("own", x, 0, -1);
            e.is("count(" + (20 + k) + ")", x.count(20 + k), 1);
            e.is("own(" + k + "), the second", Checks.own(x, k, deep(6, "")), 2);
            e.empty("own", x);
            e.is("count(" + (20 + k) + ")", x.count(20 + k), 2);
        }
        e.is("others have none", x.count(21) + x.count(23), 0);
        Checks.page(x, wide(13, ""));
        Checks.page(x, deep(6, ""));
        e.is("the first PAGE of HOUSE 4", x.look(0, 4, 0, 0), 0);
        e.is("the second PAGE of HOUSE 4", x.look(1, 4, 0, 0), 0);
    }

    private static void ownFault(Edges e) {
        Edges.Maker one = Desks.bank("box(pass;)", "box(pass;)");
        String[] texts = {"", "box", "box 10;", wide(14, ""), deep(7, "")};
        int[] faults = {1, 1, 2, 3, 4};
        int[] places = {0, 3, 4, 56, 24};
        for (int k = 0; k < texts.length; k++) {
            e.refusedText("own(0) of a HOUSE with one", texts[k], -1, faults[k], places[k], one, x -> x.own(0));
            e.refusedText("own(0) of a HOUSE with none", texts[k], -1, faults[k], places[k], HOUSE, x -> x.own(0));
            e.refusedText("own(1)", texts[k], -1, faults[k], places[k], Desks.RICH, x -> x.own(1));
        }
        PretendDesk x = one.make();
        Checks.own(x, 0, "card(card;card 10;)");
        e.is("own behind a FAULT", Checks.own(x, 0, "form;"), 2);
        Checks.page(x, "form;");
        e.is("nothing is left of the faulty one", x.look(1, 0, 0, 0), 0);
    }

    private static void ownOfNone(Edges e) {
        for (String text : new String[] {"box;", "", "?", wide(14, "")}) {
            for (int house : new int[] {3, 4, -1, 5, Integer.MIN_VALUE, Integer.MAX_VALUE}) {
                e.refusedText("own(" + house + ") of 3", text, -2, 0, -1, Desks.RICH, x -> x.own(house));
            }
            e.refusedText("own(0), which has 2", text, -2, 0, -1, Desks.RICH, x -> x.own(0));
            e.refusedText("own(4), which has 2", text, -2, 0, -1, Desks.FULL, x -> x.own(4));
            e.refusedText("own(5) of 5", text, -2, 0, -1, Desks.FULL, x -> x.own(5));
            e.refusedText("own(0) of none", text, -2, 0, -1, Desks.NEW, x -> x.own(0));
        }
        e.is("own(2), the last HOUSE", Checks.own(Desks.RICH.make(), 2, "box;"), 1);
        e.is("own(1), which has 1", Checks.own(Desks.RICH.make(), 1, "box;"), 2);
    }

    private static void pageTaken(Edges e) {
        PretendDesk x = new PretendDesk();
        for (int k = 0; k < 10; k++) {
            e.is("page", Checks.page(x, "pin " + k + "(" + "text;".repeat(k) + ")"), k);
            e.empty("page", x);
            e.fault("page", x, 0, -1);
            e.is("count(1)", x.count(1), k + 1);
        }
        for (int k = 0; k < 10; k++) {
            e.is("COLOUR of PAGE " + k, x.box(k, 0, 1), k);
            e.is("boxes(" + k + ")", x.boxes(k, 0, 0), k + 1);
        }
    }

    private static void pageFault(Edges e) {
        String[] texts = {"", "box", "box 10;", wide(14, ""), deep(7, "")};
        int[] faults = {1, 1, 2, 3, 4};
        int[] places = {0, 3, 4, 56, 24};
        for (int k = 0; k < texts.length; k++) {
            e.refusedText("page, the first", texts[k], -1, faults[k], places[k], Desks.NEW, PretendDesk::page);
            e.refusedText("page, the tenth", texts[k], -1, faults[k], places[k], NINE, PretendDesk::page);
            e.refusedText("page", texts[k], -1, faults[k], places[k], Desks.RICH, PretendDesk::page);
        }
        PretendDesk x = NINE.make();
        Checks.page(x, "card(card;card 10;)");
        e.is("page behind a FAULT", Checks.page(x, "form;"), 9);
        e.is("nothing is left of the faulty one", x.boxes(9, 0, 0), 1);
    }

    private static void pageWhenTen(Edges e) {
        e.is("page, the tenth", Checks.page(NINE.make(), "box;"), 9);
        for (String text : new String[] {"box;", "", "?", "box 10;", wide(14, ""), "pin 0;"}) {
            e.refusedText("page when there are 10", text, -2, 0, -1, TEN, PretendDesk::page);
            e.refusedText("page when there are 10", text, -2, 0, -1, Desks.FULL, PretendDesk::page);
        }
    }

    // ---- promises 13 and 14

    private static void boxes(Edges e) {
        PretendDesk x = Desks.FULL.make();
        int[] due = {3, 4, 2, 3, 1, 3, 1, 1, 0, 4};
        for (int page = 0; page < 10; page++) {
            e.is("boxes(" + page + ", 0, 0)", x.boxes(page, 0, 0), due[page]);
        }
        x = Desks.came(wide(13, ""), "box land 1;").make();
        e.is("the most", x.boxes(0, 0, 0), 14);
        e.is("the fewest", x.boxes(1, 0, 0), 0);
        e.is("one", x.boxes(1, 1, 0), 1);
    }

    private static void boxesOfNone(Edges e) {
        e.range("boxes(page, 0, 0) of 5", 0, 4, -1, Desks.RICH, (x, n) -> x.boxes(n, 0, 0));
        e.range("boxes(page, 0, 0) of 10", 0, 9, -1, TEN, (x, n) -> x.boxes(n, 0, 0));
        e.range("boxes(0, land, 0)", 0, 3, -1, Desks.RICH, (x, n) -> x.boxes(0, n, 0));
        e.range("boxes(0, 0, day)", 0, 99, -1, Desks.RICH, (x, n) -> x.boxes(0, 0, n));
        e.refused("boxes(0, 0, 0) of none", -1, Desks.NEW, x -> x.boxes(0, 0, 0));
    }

    private static void box(Edges e) {
        PretendDesk x = Desks.came(wide(12, "link 9 land 0 day 99;"), deep(5, "text land 3 day 1;"), "logo 5;").make();
        int[][] due = {{0, 0, 0, 0, -1, -1, 0}, {0, 1, 4, 0, 0, -1, 0}, {0, 12, 4, 0, 0, -1, 0}, {0, 13, 7, 9, 0, 0, 99},
            {1, 4, 0, 0, 3, -1, 0}, {1, 5, 6, 0, 4, 3, 1}, {2, 0, 5, 5, -1, -1, 0}};
        for (int[] d : due) {
            for (int what = 0; what < 5; what++) {
                e.is("box(" + d[0] + ", " + d[1] + ", " + what + ")", x.box(d[0], d[1], what), d[2 + what]);
            }
        }
    }

    private static void boxOfNone(Edges e) {
        Edges.Maker maker = Desks.came(wide(13, ""), "logo;");
        e.range("box(page, 0, 0) of 2", 0, 1, -2, maker, (x, n) -> x.box(n, 0, 0));
        e.range("box(page, 0, 0) of 10", 0, 9, -2, TEN, (x, n) -> x.box(n, 0, 0));
        e.range("box(0, k, 0) of 14", 0, 13, -2, maker, (x, n) -> x.box(0, n, 0));
        e.range("box(1, k, 0) of 1", 0, 0, -2, maker, (x, n) -> x.box(1, n, 0));
        e.range("box(0, 13, what)", 0, 4, -2, maker, (x, n) -> x.box(0, 13, n));
        e.refused("box(0, 0, 0) of none", -2, Desks.NEW, x -> x.box(0, 0, 0));
    }
}
