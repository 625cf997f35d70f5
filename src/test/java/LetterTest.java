/** Promises 43 to 48: word, pattern, letter, sentence, holds, presses. */
public final class LetterTest {
    private static final Checks CHECKS = new Checks("LetterTest");

    public static void main(String[] args) {
        word();
        pattern();
        letter();
        holds();
        CHECKS.end();
    }

    private static void word() {
        PretendDesk x = new PretendDesk();
        CHECKS.is("meaning 8", Checks.word(x, "?", 8), -2);
        CHECKS.fault("no text is read", x, 0, -1);
        CHECKS.is("the tape is empty", x.end(1), -1);
        CHECKS.is("meaning -1", Checks.word(x, "?", -1), -2);
        CHECKS.fault("no text is read", x, 0, -1);
        CHECKS.is("none at all", Checks.word(x, "", 0), -1);
        CHECKS.fault("none at all", x, 1, 0);
        CHECKS.is("a digit", Checks.word(x, "ab1", 0), -1);
        CHECKS.fault("a digit", x, 1, 2);
        CHECKS.is("a blank", Checks.word(x, " ab", 0), -1);
        CHECKS.fault("a blank", x, 1, 0);
        CHECKS.is("9 letters", Checks.word(x, "abcdefghi", 0), -1);
        CHECKS.fault("9 letters", x, 2, 8);
        CHECKS.is("1 goes first", Checks.word(x, "abcdefghij.", 0), -1);
        CHECKS.fault("1 goes first", x, 1, 10);
        CHECKS.is("none is there", x.count(6), 0);
        CHECKS.is("8 letters", Checks.word(x, "abcdefgh", 7), 0);
        CHECKS.fault("8 letters", x, 0, -1);
        CHECKS.is("the tape is empty", x.end(1), -1);
        for (int k = 1; k < 20; k++) {
            CHECKS.is("word", Checks.word(x, "w" + (char) ('a' + k), 0), k);
        }
        CHECKS.is("count(6)", x.count(6), 20);
        CHECKS.is("there are 20", Checks.word(x, "w", 1), -2);
        CHECKS.fault("there are 20", x, 0, -1);
        CHECKS.is("the tape is empty", x.end(1), -1);
        CHECKS.is("a FAULT when there are 20", Checks.word(x, "w.", 1), -1);
        CHECKS.fault("a FAULT when there are 20", x, 1, 1);
        CHECKS.is("told anew", Checks.word(x, "wt", 3), 19);
        CHECKS.is("told anew", Checks.word(x, "abcdefgh", 2), 0);
        CHECKS.is("count(6)", x.count(6), 20);
        Checks.letter(x, "wt. abcdefgh. wb. w. wtt");
        int[] due = {8, 4, 1, 0, 0};
        for (int k = 0; k < due.length; k++) {
            CHECKS.is("sentence " + k, x.sentence(k), due[k]);
        }
    }

    private static void pattern() {
        PretendDesk x = new PretendDesk();
        CHECKS.is("meanings 0", x.pattern(0, 1), -1);
        CHECKS.is("meanings 256", x.pattern(256, 1), -1);
        CHECKS.is("meanings -1", x.pattern(-1, 1), -1);
        CHECKS.is("weight 100", x.pattern(1, 100), -1);
        CHECKS.is("weight -100", x.pattern(1, -100), -1);
        CHECKS.is("none is there", x.count(7), 0);
        for (int k = 0; k < 8; k++) {
            CHECKS.is("pattern", x.pattern(k == 0 ? 255 : 1 << k, k % 2 == 0 ? 99 : -99), k);
        }
        CHECKS.is("there are 8", x.pattern(1, 1), -1);
        CHECKS.is("count(7)", x.count(7), 8);
    }

    private static void letter() {
        PretendDesk x = new PretendDesk();
        CHECKS.is("sentences at first", x.count(8), 0);
        CHECKS.is("none at first", x.sentence(0), -1);
        CHECKS.is("none", Checks.letter(x, ""), 0);
        CHECKS.fault("none", x, 0, -1);
        CHECKS.is("dots", Checks.letter(x, ".. \n. ."), 0);
        CHECKS.is("the last one with the text", Checks.letter(x, "a"), 1);
        CHECKS.is("and with a dot", Checks.letter(x, "a."), 1);
        CHECKS.is("no word behind", Checks.letter(x, "a. \n "), 1);
        CHECKS.is("blanks as they come", Checks.letter(x, "\n a\nb .c.d ."), 3);
        CHECKS.is("the tape is empty", x.end(1), -1);
        CHECKS.is("count(8)", x.count(8), 3);
        CHECKS.is("a FAULT", Checks.letter(x, "a.b,c"), -1);
        CHECKS.fault("a FAULT", x, 1, 3);
        CHECKS.is("a digit", Checks.letter(x, "abc 1;"), -1);
        CHECKS.fault("the first one", x, 1, 4);
        CHECKS.is("a great letter", Checks.letter(x, "A"), -1);
        CHECKS.fault("a great letter", x, 1, 0);
        CHECKS.is("the tape is empty", x.end(1), -1);
        CHECKS.is("the LETTER stays", x.count(8), 3);
        StringBuilder most = new StringBuilder();
        for (int k = 0; k < 250; k++) {
            most.append("b.");
        }
        x.end(0);
        for (int k = 0; k < 25; k++) {
            x.feed(0x622E622E, 0x622E622E, 0x622E622E, 0x622E622E, 0x622E622E);
        }
        CHECKS.is("250 sentences", x.letter(), 250);
        CHECKS.is("the last one", x.sentence(249), 0);
        CHECKS.is("none behind", x.sentence(250), -1);
        CHECKS.is("sentence -1", x.sentence(-1), -1);
        Checks.word(x, "b", 7);
        CHECKS.is("as it is when it is asked", x.sentence(249), 128);
        CHECKS.is("a long word", Checks.letter(x, "bbbbbbbbbbbbbbbbbbbbbbbbbbbbbbbbbbbbbbb b"), 1);
        CHECKS.is("sentence(0)", x.sentence(0), 128);
        Checks.word(x, "bb", 6);
        Checks.letter(x, "bb b. bbb. b b. bb");
        int[] due = {192, 0, 128, 64};
        for (int k = 0; k < due.length; k++) {
            CHECKS.is("sentence " + k, x.sentence(k), due[k]);
        }
    }

    private static void holds() {
        PretendDesk x = new PretendDesk();
        CHECKS.is("no pattern", x.holds(0), -1);
        CHECKS.is("pattern -1", x.holds(-1), -1);
        Checks.word(x, "win", 1);
        Checks.word(x, "now", 2);
        Checks.word(x, "key", 3);
        x.pattern(0b0110, 10);
        x.pattern(0b1000, -4);
        x.pattern(0b0010, 99);
        CHECKS.is("no LETTER", x.presses(), 0);
        CHECKS.is("no LETTER", x.holds(1), -1);
        Checks.letter(x, "win. now. the key now. win");
        CHECKS.is("not in one SENTENCE", x.holds(0), -1);
        CHECKS.is("the third", x.holds(1), 2);
        CHECKS.is("the first", x.holds(2), 0);
        CHECKS.is("pattern 3", x.holds(3), -1);
        CHECKS.is("each once", x.presses(), 95);
        Checks.letter(x, "key. now win key");
        CHECKS.is("more than its MEANINGS", x.holds(0), 1);
        CHECKS.is("the first", x.holds(1), 0);
        CHECKS.is("all", x.presses(), 105);
        Checks.word(x, "now", 4);
        CHECKS.is("told anew", x.holds(0), -1);
        CHECKS.is("told anew", x.presses(), 95);
        x.pattern(0b1000, -99);
        CHECKS.is("below 0", x.presses(), -4);
        Checks.letter(x, "");
        CHECKS.is("nothing", x.presses(), 0);
    }
}
