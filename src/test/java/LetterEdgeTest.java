/** The edges of promises 43 to 48: word, pattern, letter, sentence, holds, presses; of WORDS, PATTERNS and LETTERS. */
public final class LetterEdgeTest {
    private static final Edges.Maker NINETEEN = () -> words(19);

    public static void main(String[] args) {
        Edges.run("LetterEdgeTest", LetterEdgeTest::sentences);
    }

    static void sentences(Edges e) {
        e.of("Term 6", "WORDS, at most 20, from 0 on,", LetterEdgeTest::atMost20);
        e.of("Term 6", "rows of 1 to 8 letters a .. z,", LetterEdgeTest::oneToEightLetters);
        e.of("Term 6", "have a MEANING, 0 .. 7 (told anew it is the new one).", LetterEdgeTest::toldAnew);
        e.of("Promise 43", "The tape is taken (and is empty then), all its bytes, as a WORD: its number.", LetterEdgeTest::word);
        e.of("Promise 43", "NONE: a FAULT: 1, at the first byte that is no letter", LetterEdgeTest::wordNoLetter);
        e.of("Promise 43", "(of none at all at place 0);", LetterEdgeTest::wordOfNone);
        e.of("Promise 43", "without one 2, at the 9th one.", LetterEdgeTest::word9);
        e.of("Promise 43", "-2: there is no such MEANING (the tape is empty then, too; no text is read, FAULT 0);",
                LetterEdgeTest::wordWithoutMeaning);
        e.of("Promise 43", "or there are 20, and it is none of them (FAULT 0).", LetterEdgeTest::wordWhenThereAre20);
        e.of("Term 6", "PATTERNS, at most 8, from 0 on: a set of MEANINGS (bits 1 .. 255) and a WEIGHT, -99 .. 99.",
                LetterEdgeTest::patterns);
        e.of("Promise 44", "A PATTERN: its number.", LetterEdgeTest::pattern);
        e.of("Promise 44", "NONE: there are 8, or other numbers.", LetterEdgeTest::patternOfNone);
        letters(e);
    }

    private static void letters(Edges e) {
        e.of("Term 6", "LETTER: a text of words (rows of letters) and dots (.), blanks (10, 32) between as they come;",
                LetterEdgeTest::letterOf);
        e.of("Term 6", "FAULT 1 at the first other byte.", LetterEdgeTest::otherByte);
        e.of("Term 6", "SENTENCES end with a dot, the last one with the text, too (if it has a word);",
                LetterEdgeTest::endWithDotOrText);
        e.of("Term 6", "one without words is none.", LetterEdgeTest::withoutWords);
        e.of("Promise 45", "The tape is taken (and is empty then), as the LETTER: how many SENTENCES.", LetterEdgeTest::letter);
        e.of("Promise 45", "NONE: a FAULT (the LETTER stays).", LetterEdgeTest::letterFault);
        e.of("Promise 46", "MEANINGS (bits) of a SENTENCE of the LETTER, from 0 on.", LetterEdgeTest::sentence);
        e.of("Promise 46", "NONE: there is none such.", LetterEdgeTest::sentenceOfNone);
        e.of("Term 6", "A PATTERN HOLDS in a SENTENCE, if all its MEANINGS are among those of its words that are WORDS",
                LetterEdgeTest::allAmongThose);
        e.of("Term 6", "(as they are when it is asked).", LetterEdgeTest::whenAsked);
        e.of("Promise 47", "The first SENTENCE in which a PATTERN HOLDS.", LetterEdgeTest::holds);
        e.of("Promise 47", "NONE: none, or there is no such PATTERN.", LetterEdgeTest::holdsOfNone);
        e.of("Term 6", "PRESSES: WEIGHTS of all PATTERNS that HOLD in some SENTENCE, together.", LetterEdgeTest::together);
        e.of("Promise 48", "PRESSES (0 without a LETTER).", LetterEdgeTest::presses);
    }

    private static PretendDesk words(int n) {
        PretendDesk x = new PretendDesk();
        for (int k = 0; k < n; k++) {
            Checks.word(x, Desks.word(k), k % 8);
        }
        return x;
    }

    private static String row(int n) {
        return "a".repeat(n);
    }

    // ---- WORDS

    private static void atMost20(Edges e) {
        PretendDesk x = new PretendDesk();
        for (int k = 0; k < 20; k++) {
            e.is("count(6)", x.count(6), k);
            e.is("word " + k, Checks.word(x, Desks.word(k), 1), k);
        }
        e.is("word 20", Checks.word(x, "x", 1), -2);
        e.is("count(6)", x.count(6), 20);
        e.is("the first one is there", Checks.letter(x, "wa."), 1);
        e.is("its MEANING", x.sentence(0), 2);
        Checks.letter(x, "wt");
        e.is("the MEANING of the last one", x.sentence(0), 2);
        Checks.letter(x, "x");
        e.is("the MEANING of one that is none", x.sentence(0), 0);
    }

    private static void oneToEightLetters(Edges e) {
        for (int n = 1; n <= 8; n++) {
            PretendDesk x = new PretendDesk();
            e.is("word of " + n, Checks.word(x, row(n), 5), 0);
            Checks.letter(x, row(n) + "." + row(n - 1) + "b." + row(n + 1) + "." + (n > 1 ? row(n - 1) : "b") + ".");
            e.is("it", x.sentence(0), 32);
            e.is("another last letter", x.sentence(1), 0);
            e.is("a letter more", x.sentence(2), 0);
            e.is("a letter less", x.sentence(3), 0);
        }
        for (int n : new int[] {0, 9, 10}) {
            e.is("word of " + n, Checks.word(new PretendDesk(), row(n), 5), -1);
        }
        for (int sign = 0; sign < 256; sign++) {
            boolean letter = sign >= 'a' && sign <= 'z';
            e.is("word of byte " + sign, Checks.word(new PretendDesk(), "" + (char) sign, 0), letter ? 0 : -1);
        }
    }

    private static void toldAnew(Edges e) {
        PretendDesk x = words(20);
        Checks.letter(x, "wa. wt");
        for (int meaning = 0; meaning <= 7; meaning++) {
            e.is("the first one anew", Checks.word(x, "wa", meaning), 0);
            e.is("its MEANING", x.sentence(0), 1 << meaning);
            e.is("the last one anew", Checks.word(x, "wt", 7 - meaning), 19);
            e.is("its MEANING", x.sentence(1), 1 << 7 - meaning);
            e.is("the MEANING of the first one", x.sentence(0), 1 << meaning);
            e.is("count(6)", x.count(6), 20);
        }
        x = words(1);
        e.is("one anew", Checks.word(x, "wa", 3), 0);
        e.is("count(6)", x.count(6), 1);
        e.is("another one", Checks.word(x, "w", 3), 1);
        e.is("another one", Checks.word(x, "wab", 3), 2);
    }

    private static void word(Edges e) {
        PretendDesk x = new PretendDesk();
        for (int k = 0; k < 20; k++) {
            e.is("word", Checks.word(x, row(k % 8) + Desks.word(k).charAt(1), k % 8), k);
            e.empty("word", x);
            e.fault("word", x, 0, -1);
        }
        e.is("told anew", Checks.word(x, "a", 7), 0);
        e.empty("told anew", x);
        e.fault("told anew", x, 0, -1);
        String[] notAll = {"win ", " win", "win.", "win\n", "win\0", "w n"};
        int[] places = {3, 0, 3, 3, 3, 1};
        for (int k = 0; k < notAll.length; k++) {
            e.refusedText("word(0)", notAll[k], -1, 1, places[k], Desks.RICH, y -> y.word(0));
        }
    }

    private static void wordNoLetter(Edges e) {
        for (int sign = 0; sign < 256; sign++) {
            if (sign < 'a' || sign > 'z') {
                PretendDesk x = NINETEEN.make();
                e.is("word of a and byte " + sign, Checks.word(x, "a" + (char) sign + "?", 0), -1);
                e.fault("word of a and byte " + sign, x, 1, 1);
                e.is("count(6)", x.count(6), 19);
            }
        }
        for (int at : new int[] {0, 1, 6, 7, 8, 9, 40, 479}) {
            PretendDesk x = NINETEEN.make();
            e.is("word with 1 at " + at, Checks.word(x, row(at) + "1" + row(479 - at), 0), -1);
            e.fault("word with 1 at " + at, x, 1, at);
        }
        e.refusedText("word(7)", row(8) + "1", -1, 1, 8, Desks.RICH, x -> x.word(7));
        e.refusedText("word(7)", row(9) + "1", -1, 1, 9, Desks.RICH, x -> x.word(7));
        // The text goes first: a FAULT is told when there are 20, too.
        e.refusedText("word(7) when there are 20", "w1", -1, 1, 1, Desks.WORDY, x -> x.word(7));
    }

    private static void wordOfNone(Edges e) {
        e.refusedText("word(0)", "", -1, 1, 0, Desks.NEW, x -> x.word(0));
        e.refusedText("word(7)", "", -1, 1, 0, Desks.RICH, x -> x.word(7));
        e.refusedText("word(0)", "", -1, 1, 0, Desks.WORDY, x -> x.word(0));
        e.is("word of one letter", Checks.word(NINETEEN.make(), "w", 0), 19);
    }

    private static void word9(Edges e) {
        e.is("word of 8", Checks.word(NINETEEN.make(), row(8), 0), 19);
        for (int n : new int[] {9, 10, 20, 480}) {
            e.refusedText("word(0)", row(n), -1, 2, 8, NINETEEN, x -> x.word(0));
        }
        e.refusedText("word(7)", "abcdefghi", -1, 2, 8, Desks.RICH, x -> x.word(7));
        e.refusedText("word(7) when there are 20", row(9), -1, 2, 8, Desks.WORDY, x -> x.word(7));
    }

    private static void wordWithoutMeaning(Edges e) {
        for (int meaning = 0; meaning <= 7; meaning++) {
            PretendDesk x = new PretendDesk();
            e.is("word(" + meaning + ")", Checks.word(x, "a", meaning), 0);
            Checks.letter(x, "a");
            e.is("its bit", x.sentence(0), 1 << meaning);
        }
        for (int meaning : new int[] {8, -1, 9, 256, Integer.MIN_VALUE, Integer.MAX_VALUE}) {
            for (String text : new String[] {"a", "win", "", "?", row(9)}) {
                e.refusedText("word(" + meaning + ")", text, -2, 0, -1, Desks.RICH, x -> x.word(meaning));
            }
            e.refusedText("word(" + meaning + ") when there are 20", "wa", -2, 0, -1, Desks.WORDY, x -> x.word(meaning));
        }
    }

    private static void wordWhenThereAre20(Edges e) {
        e.is("the 20th", Checks.word(NINETEEN.make(), "wt", 0), 19);
        for (String text : new String[] {"w", "wu", "waa", "aw", row(8)}) {
            e.refusedText("word(0) when there are 20", text, -2, 0, -1, Desks.WORDY, x -> x.word(0));
        }
        for (int k = 0; k < 20; k++) {
            e.is("one of them", Checks.word(Desks.WORDY.make(), Desks.word(k), 7), k);
        }
    }

    // ---- PATTERNS

    private static void patterns(Edges e) {
        PretendDesk x = Desks.WORDY.make();
        for (int k = 0; k < 8; k++) {
            e.is("holds(" + k + ")", x.holds(k), new int[] {0, 0, 1, 3, -1, -1, -1, 2}[k]);
        }
        int[][] rows = {{1, -99}, {255, 99}, {128, 0}, {254, -1}, {127, 1}, {2, 98}, {3, -98}, {4, 50}};
        x = new PretendDesk();
        for (int k = 0; k < 8; k++) {
            e.is("pattern(" + rows[k][0] + ", " + rows[k][1] + ")", x.pattern(rows[k][0], rows[k][1]), k);
            e.is("count(7)", x.count(7), k + 1);
        }
        e.is("a 9th", x.pattern(1, 1), -1);
        for (int weight : new int[] {-99, -1, 0, 1, 99}) {
            x = words(8);
            x.pattern(255, weight);
            Checks.letter(x, "wa wb wc wd we wf wg wh");
            e.is("all MEANINGS, WEIGHT " + weight, x.presses(), weight);
        }
    }

    private static void pattern(Edges e) {
        PretendDesk x = Desks.RICH.make();
        for (int k = 2; k < 8; k++) {
            e.is("pattern", x.pattern(255, -99), k);
        }
        e.is("pattern when there are 8", x.pattern(255, -99), -1);
        x = Desks.RICH.make();
        e.is("the same once more", x.pattern(0b110, 10), 2);
        e.is("it counts once more", x.presses(), 16);
    }

    private static void patternOfNone(Edges e) {
        e.range("pattern(meanings, 1)", 1, 255, -1, Desks.RICH, (x, n) -> x.pattern(n, 1));
        e.range("pattern(1, weight)", -99, 99, -1, Desks.RICH, (x, n) -> x.pattern(1, n));
        e.refused("pattern(1, 1) when there are 8", -1, Desks.WORDY, x -> x.pattern(1, 1));
        e.refused("pattern(255, -99) when there are 8", -1, Desks.WORDY, x -> x.pattern(255, -99));
    }

    // ---- the LETTER

    private static void letter(Edges e, String text, int... meanings) {
        PretendDesk x = words(8);
        e.is("letter of '" + text + "'", Checks.letter(x, text), meanings.length);
        e.fault("letter of '" + text + "'", x, 0, -1);
        e.is("count(8) of '" + text + "'", x.count(8), meanings.length);
        for (int k = 0; k < meanings.length; k++) {
            e.is("sentence(" + k + ") of '" + text + "'", x.sentence(k), meanings[k]);
        }
        e.is("one behind the last of '" + text + "'", x.sentence(meanings.length), -1);
    }

    private static void letterOf(Edges e) {
        letter(e, "wa", 1);
        letter(e, "wa wb", 3);
        letter(e, "wa\nwb", 3);
        letter(e, "wa  \n  wb", 3);
        letter(e, " \n wa wb \n ", 3);
        letter(e, "wa.wb", 1, 2);
        letter(e, "wa .wb", 1, 2);
        letter(e, "wa\n.\nwb\n.", 1, 2);
        letter(e, "wawb", 0);
        letter(e, "wa wa wa", 1);
        letter(e, "wa x wh y", 129);
        letter(e, row(480), 0);
        letter(e, row(470) + " wh", 128);
    }

    private static void otherByte(Edges e) {
        for (int sign = 0; sign < 256; sign++) {
            boolean good = sign >= 'a' && sign <= 'z' || sign == '.' || sign == 10 || sign == 32;
            PretendDesk x = new PretendDesk();
            e.is("letter of byte " + sign, Checks.letter(x, "a " + (char) sign + (char) sign), good ? 1 : -1);
            e.fault("letter of byte " + sign, x, good ? 0 : 1, good ? -1 : 2);
        }
        for (int at : new int[] {0, 1, 10, 478, 479}) {
            e.refusedText("letter", row(at) + "1" + row(479 - at), -1, 1, at, Desks.RICH, PretendDesk::letter);
        }
        e.refusedText("letter", "wa,wb;", -1, 1, 2, Desks.WORDY, PretendDesk::letter);
    }

    private static void endWithDotOrText(Edges e) {
        letter(e, "wa.", 1);
        letter(e, "wa. ", 1);
        letter(e, "wa.\n", 1);
        letter(e, "wa. wb", 1, 2);
        letter(e, "wa. wb.", 1, 2);
        letter(e, "wa. wb. ", 1, 2);
        letter(e, "wa. w", 1, 0);
        PretendDesk x = new PretendDesk();
        for (int k = 0; k < 25; k++) {
            x.feed(0x612E612E, 0x612E612E, 0x612E612E, 0x612E612E, k < 24 ? 0x612E612E : 0x612E6161);
        }
        e.is("500 bytes, the last one a letter", x.letter(), 250);
        e.is("the last SENTENCE", x.sentence(249), 0);
        e.is("one behind it", x.sentence(250), -1);
        Checks.word(x, "aa", 4);
        e.is("the word at the end of 500 bytes", x.sentence(249), 16);
    }

    private static void withoutWords(Edges e) {
        letter(e, "");
        letter(e, ".");
        letter(e, " ");
        letter(e, " . \n . ");
        letter(e, "..wa", 1);
        letter(e, "wa..", 1);
        letter(e, "wa. . .wb", 1, 2);
        letter(e, ".wa.", 1);
        letter(e, "x.", 0);
        PretendDesk x = Desks.WORDY.make();
        x.end(0);
        for (int k = 0; k < 25; k++) {
            x.feed(0x2E2E2E2E, 0x2E2E2E2E, 0x2E2E2E2E, 0x2E2E2E2E, 0x2E2E2E2E);
        }
        e.is("500 dots", x.letter(), 0);
        e.is("count(8)", x.count(8), 0);
        e.is("presses", x.presses(), 0);
    }

    private static void letter(Edges e) {
        PretendDesk x = Desks.RICH.make();
        e.is("the LETTER before", x.count(8), 3);
        e.is("letter", Checks.letter(x, "key"), 1);
        e.empty("letter", x);
        e.fault("letter", x, 0, -1);
        e.is("count(8)", x.count(8), 1);
        e.is("sentence(0)", x.sentence(0), 8);
        e.is("letter of none", Checks.letter(x, ""), 0);
        e.empty("letter of none", x);
        e.is("count(8)", x.count(8), 0);
        x.end(0);
        for (int k = 0; k < 25; k++) {
            x.feed(0x612E612E, 0x612E612E, 0x612E612E, 0x612E612E, 0x612E612E);
        }
        e.is("the most SENTENCES", x.letter(), 250);
        e.is("count(8)", x.count(8), 250);
        e.is("sentence(249)", x.sentence(249), 0);
        e.is("sentence(250)", x.sentence(250), -1);
    }

    private static void letterFault(Edges e) {
        e.refusedText("letter", "?", -1, 1, 0, Desks.RICH, PretendDesk::letter);
        e.refusedText("letter", "key. key?", -1, 1, 8, Desks.RICH, PretendDesk::letter);
        e.refusedText("letter", "win1", -1, 1, 3, Desks.WORDY, PretendDesk::letter);
        e.refusedText("letter", "a-b", -1, 1, 1, Desks.NEW, PretendDesk::letter);
        PretendDesk x = Desks.WORDY.make();
        Checks.letter(x, "wh wh wh wh; wh.wh.wh.wh.wh.wh.wh.wh");
        e.is("the LETTER stays, count(8)", x.count(8), 4);
        e.is("the LETTER stays, sentence(0)", x.sentence(0), 3);
    }

    private static void sentence(Edges e) {
        PretendDesk x = Desks.WORDY.make();
        int[] due = {3, 4, 129, 8};
        for (int k = 0; k < 4; k++) {
            e.is("sentence(" + k + ")", x.sentence(k), due[k]);
        }
        x = words(8);
        Checks.letter(x, "wa wb wc wd we wf wg wh. wh wa. x");
        e.is("all MEANINGS", x.sentence(0), 255);
        e.is("the first and the last one", x.sentence(1), 129);
        e.is("no MEANING", x.sentence(2), 0);
    }

    private static void sentenceOfNone(Edges e) {
        e.range("sentence(k) of 4", 0, 3, -1, Desks.WORDY, (x, n) -> x.sentence(n));
        e.range("sentence(k) of 3", 0, 2, -1, Desks.RICH, (x, n) -> x.sentence(n));
        e.refused("sentence(0) without a LETTER", -1, Desks.NEW, x -> x.sentence(0));
        e.refused("sentence(0) of a LETTER without words", -1, () -> {
            PretendDesk x = Desks.RICH.make();
            Checks.letter(x, " . ");
            return x;
        }, x -> x.sentence(0));
    }

    // ---- HOLDS and PRESSES

    private static void allAmongThose(Edges e) {
        PretendDesk x = words(8);
        int[] sets = {0b11, 0b111, 0b10000001, 0b1000, 255};
        for (int set : sets) {
            x.pattern(set, 1);
        }
        Checks.letter(x, "wa. wb. wa wb. wa wc wb. wh x wa. wa wb wc we wf wg wh. wa wb wc wd we wf wg wh");
        int[] due = {2, 3, 4, 6, 6};
        for (int k = 0; k < sets.length; k++) {
            e.is("holds(" + k + ") of set " + sets[k], x.holds(k), due[k]);
        }
        Checks.letter(x, "wa. wb. wc. wd. we. wf. wg. wh");
        int[] alone = {-1, -1, -1, 3, -1};
        for (int k = 0; k < sets.length; k++) {
            e.is("holds(" + k + ") of set " + sets[k] + ", each in its own", x.holds(k), alone[k]);
        }
    }

    private static void whenAsked(Edges e) {
        PretendDesk x = new PretendDesk();
        x.pattern(1, 9);
        Checks.letter(x, "no. yes");
        e.is("holds before there is a WORD", x.holds(0), -1);
        e.is("presses before there is a WORD", x.presses(), 0);
        Checks.word(x, "yes", 0);
        e.is("sentence(1) behind it", x.sentence(1), 1);
        e.is("holds behind it", x.holds(0), 1);
        e.is("presses behind it", x.presses(), 9);
        Checks.word(x, "no", 0);
        e.is("holds with another one", x.holds(0), 0);
        Checks.word(x, "no", 1);
        e.is("holds when it is told anew", x.holds(0), 1);
        Checks.word(x, "yes", 7);
        e.is("holds when both are", x.holds(0), -1);
        x.pattern(128, 5);
        e.is("a later PATTERN", x.holds(1), 1);
    }

    private static void holds(Edges e) {
        PretendDesk x = Desks.RICH.make();
        e.is("holds(0), the first SENTENCE", x.holds(0), 0);
        e.is("holds(1), the second one", x.holds(1), 1);
        x.pattern(0b10, 1);
        e.is("in the first one and in the last one", x.holds(2), 0);
        x = new PretendDesk();
        x.pattern(2, 1);
        Checks.word(x, "b", 1);
        x.end(0);
        for (int k = 0; k < 25; k++) {
            x.feed(0x612E612E, 0x612E612E, 0x612E612E, 0x612E612E, k < 24 ? 0x612E612E : 0x612E622E);
        }
        x.letter();
        e.is("in the last one of 250", x.holds(0), 249);
    }

    private static void holdsOfNone(Edges e) {
        Edges.Maker maker = () -> {
            PretendDesk x = Desks.WORDY.make();
            Checks.letter(x, "wa wb wc wd we wf wg wh");
            return x;
        };
        e.range("holds(pattern) of 8", 0, 7, -1, maker, (x, n) -> x.holds(n));
        e.range("holds(pattern) of 2", 0, 1, -1, Desks.RICH, (x, n) -> x.holds(n));
        e.refused("holds(0) of none", -1, Desks.NEW, x -> x.holds(0));
        e.refused("holds(4) in no SENTENCE", -1, Desks.WORDY, x -> x.holds(4));
        e.refused("holds(0) without a LETTER", -1, () -> {
            PretendDesk x = new PretendDesk();
            x.pattern(1, 1);
            return x;
        }, x -> x.holds(0));
    }

    private static void together(Edges e) {
        PretendDesk x = words(8);
        for (int k = 0; k < 8; k++) {
            x.pattern(1 << k, k % 2 == 0 ? 99 : -99);
        }
        String[] texts = {"wa", "wb", "wa wb", "wa. wb", "wa. wa. wa wa", "wa. wc. we. wg", "wb wd wf wh", "wa wb wc wd we wf wg wh", "x", ""};
        int[] due = {99, -99, 0, 0, 99, 396, -396, 0, 0, 0};
        for (int k = 0; k < texts.length; k++) {
            Checks.letter(x, texts[k]);
            e.is("presses of '" + texts[k] + "'", x.presses(), due[k]);
        }
        x = words(1);
        for (int k = 0; k < 8; k++) {
            x.pattern(1, 99);
        }
        Checks.letter(x, "wa");
        e.is("the most", x.presses(), 792);
        x = words(1);
        for (int k = 0; k < 8; k++) {
            x.pattern(1, -99);
        }
        Checks.letter(x, "wa");
        e.is("the least", x.presses(), -792);
    }

    private static void presses(Edges e) {
        PretendDesk x = words(8);
        x.pattern(1, 7);
        e.is("without a LETTER", x.presses(), 0);
        Checks.letter(x, "wa?");
        e.is("with a LETTER that has a FAULT", x.presses(), 0);
        Checks.letter(x, "wa");
        e.is("with one", x.presses(), 7);
        e.is("of RICH", Desks.RICH.make().presses(), 6);
        e.is("of WORDY", Desks.WORDY.make().presses(), 1 + 11 + 21 + 31 + 71);
        e.is("of a new object", new PretendDesk().presses(), 0);
    }
}
