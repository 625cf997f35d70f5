/** The edges of promises 1 to 3 and 8: a new object, feed, end, fault; of the tape; of an object's use. */
public final class TapeEdgeTest {
    private static final int A = 0x61616161;

    public static void main(String[] args) {
        Edges.run("TapeEdgeTest", TapeEdgeTest::sentences);
    }

    static void sentences(Edges e) {
        e.of("Promise 1", "No HOUSES, PAGES, CASES, CHANGES;", TapeEdgeTest::newObjectHasNone);
        e.of("Promise 1", "no signs ALIKE;", TapeEdgeTest::newObjectHasNoSignsAlike);
        e.of("Promise 1", "no images.", TapeEdgeTest::newObjectHasNoImages);
        e.of("Promise 2", "The tape: twenty bytes come behind it,", TapeEdgeTest::twentyBytesBehind);
        e.of("Promise 2", "of each number the highest first:", TapeEdgeTest::highestByteFirst);
        e.of("Promise 2", "how many it has.", TapeEdgeTest::howManyBytes);
        e.of("Promise 2", "NONE, and nothing comes, if there would be more than 500.", TapeEdgeTest::notMoreThan500);
        e.of("Term 1", "THE TAPE has at most 500 bytes.", TapeEdgeTest::all500AreRead);
        e.of("Promise 3", "The tape has its first n bytes alone: n.", TapeEdgeTest::firstBytesAlone);
        e.of("Promise 3", "The tape has its first n bytes alone", TapeEdgeTest::cutOff);
        e.of("Promise 3", "NONE if it has not so many, or n is below 0.", TapeEdgeTest::notSoMany);
        e.of("Promise 8", "Of the latest of these,", TapeEdgeTest::latestOfThese);
        e.of("Promise 8", "what 0: the FAULT, 0 without, 1: its place, NONE without.", TapeEdgeTest::faultAndPlace);
        e.of("Promise 8", "NONE for another what.", TapeEdgeTest::anotherWhat);
        e.of("Constants", "The constants: `NONE = -1`: There is none.", TapeEdgeTest::none);
        e.of("Use", "An object is used for at most 512 calls after it has been made; what later calls answer is free.",
                TapeEdgeTest::call512);
    }

    /** A tape of n bytes "a". */
    private static PretendDesk tapeOf(int n) {
        PretendDesk x = new PretendDesk();
        for (int had = 0; had < n; had += 20) {
            if (had + 20 > 500) {
                x.end(480);
            }
            x.feed(A, A, A, A, A);
        }
        x.end(n);
        return x;
    }

    // ---- promise 1

    private static void newObjectHasNone(Edges e) {
        int[] due = {0, 0, 0, 10, 40, 30, 0, 0, 0, -2};
        for (int what = 0; what < due.length; what++) {
            e.is("count(" + what + ")", new PretendDesk().count(what), due[what]);
        }
        for (int what = 10; what < 30; what++) {
            e.is("count(" + what + ")", new PretendDesk().count(what), -2);
        }
        e.refused("boxes(0, 0, 0)", -1, Desks.NEW, x -> x.boxes(0, 0, 0));
        e.refused("look(0, 0, 0, 0)", -1, Desks.NEW, x -> x.look(0, 0, 0, 0));
        e.is("fit(0, 3)", new PretendDesk().fit(0, 3), 0);
        PretendDesk x = new PretendDesk();
        Checks.page(x, "box;");
        e.is("count(1), the first PAGE", x.count(1), 1);
        e.is("count(10), its CHANGES", x.count(10), 0);
        e.is("count(11)", x.count(11), -2);
    }

    private static void newObjectHasNoSignsAlike(Edges e) {
        String signs = "abcdefghijklmnopqrstuvwxyz0123456789";
        for (int a = 0; a < signs.length(); a++) {
            PretendDesk x = new PretendDesk();
            Checks.house(x, signs.substring(a, a + 1));
            Checks.page(x, "box;");
            for (int b = 0; b < signs.length(); b++) {
                Checks.name(x, 0, signs.substring(b, b + 1));
                e.is("spell of " + signs.charAt(b) + " and " + signs.charAt(a), x.spell(0, 0), a == b ? 0 : 6);
            }
        }
    }

    private static void newObjectHasNoImages(Edges e) {
        for (int k = 0; k < 3; k++) {
            int image = k;
            e.refused("again(" + k + ")", 0, Desks.NEW, x -> Edges.bit(x.again(image)));
            PretendDesk x = new PretendDesk();
            x.image(k);
            e.is("again(" + k + ") behind image(" + k + ")", x.again(k), true);
        }
    }

    // ---- promise 2

    private static void twentyBytesBehind(Edges e) {
        for (int had = 0; had <= 40; had++) {
            PretendDesk x = tapeOf(had);
            x.feed(0x3F616161, A, A, A, A);
            x.letter();
            e.fault("the first byte behind " + had, x, 1, had);
            x = tapeOf(had);
            x.feed(A, A, A, A, 0x6161613F);
            x.letter();
            e.fault("the last byte behind " + had, x, 1, had + 19);
        }
    }

    private static void highestByteFirst(Edges e) {
        for (int k = 0; k < 20; k++) {
            int[] five = {A, A, A, A, A};
            int shift = 24 - 8 * (k % 4);
            for (int sign : new int[] {0, 1, 0x3F, 0x7F, 0x80, 0xFF}) {
                five[k / 4] = A & ~(255 << shift) | sign << shift;
                PretendDesk x = new PretendDesk();
                e.is("feed", x.feed(five[0], five[1], five[2], five[3], five[4]), 20);
                x.letter();
                e.fault("byte " + sign + " as byte " + k, x, 1, k);
            }
        }
    }

    private static void howManyBytes(Edges e) {
        for (int had = 0; had <= 480; had += 24) {
            e.is("feed behind " + had, tapeOf(had).feed(0, 0, 0, 0, 0), had + 20);
        }
        e.is("feed behind 1", tapeOf(1).feed(0, 0, 0, 0, 0), 21);
        e.is("feed behind 479", tapeOf(479).feed(0, 0, 0, 0, 0), 499);
    }

    private static void notMoreThan500(Edges e) {
        PretendDesk x = tapeOf(480);
        e.is("feed behind 480", x.feed(A, A, A, A, A), 500);
        e.is("all of them are there, end(500)", x.end(500), 500);
        for (int had : new int[] {481, 482, 490, 499, 500}) {
            Edges.Maker maker = () -> tapeOf(had);
            e.refused("feed behind " + had, -1, maker, y -> y.feed(0x3F3F3F3F, 0, 0, 0, 0));
            x = maker.make();
            x.feed(0x3F3F3F3F, 0, 0, 0, 0);
            e.is("behind that end(" + (had + 1) + ")", x.end(had + 1), -1);
            e.is("behind that end(" + had + ")", x.end(had), had);
            e.is("behind that the tape is one word", x.letter(), 1);
            e.fault("behind that", x, 0, -1);
        }
    }

    private static void all500AreRead(Edges e) {
        PretendDesk x = tapeOf(480);
        x.feed(A, A, A, A, 0x6161613F);
        x.letter();
        e.fault("the 500th byte", x, 1, 499);
        x = tapeOf(480);
        x.feed(A, A, A, A, 0x61613F61);
        x.letter();
        e.fault("the 499th byte", x, 1, 498);
        x = tapeOf(500);
        e.is("500 bytes are one word", x.letter(), 1);
        e.empty("500 bytes taken", x);
        x = new PretendDesk();
        for (int k = 0; k < 25; k++) {
            x.feed(0x20202020, 0x20202020, 0x20202020, 0x20202020, 0x20202020);
        }
        e.is("500 blanks", x.page(), -1);
        e.fault("500 blanks", x, 1, 500);
        // The start of a word, a word, a number and a sign as the last bytes of 500.
        int[] last = {0x20202070, 0x2020706F, 0x2073746F, 0x2020626F, 0x20626F78, 0x20202031, 0x31323334, 0x2020203B, 0x20202028};
        int[] places = {499, 498, 497, 498, 500, 499, 496, 499, 499};
        for (int k = 0; k < last.length; k++) {
            x = new PretendDesk();
            for (int fed = 0; fed < 25; fed++) {
                x.feed(0x20202020, 0x20202020, 0x20202020, 0x20202020, fed < 24 ? 0x20202020 : last[k]);
            }
            e.is("500 bytes, as the last ones " + Integer.toHexString(last[k]), x.page(), -1);
            e.fault("500 bytes, as the last ones " + Integer.toHexString(last[k]), x, 1, places[k]);
        }
    }

    // ---- promise 3

    private static void firstBytesAlone(Edges e) {
        for (int n : new int[] {0, 1, 2, 19, 20}) {
            PretendDesk x = new PretendDesk();
            x.feed(0x62616E6B, A, A, A, A);
            e.is("end(" + n + ") of 20", x.end(n), n);
            e.is("end(" + n + ") again", x.end(n), n);
            e.is("end(" + (n + 1) + ") behind it", x.end(n + 1), -1);
            e.is("what comes then comes behind " + n, x.feed(0x3F000000, 0, 0, 0, 0), n + 20);
            x.letter();
            e.fault("what comes then comes behind " + n, x, 1, n);
        }
        PretendDesk x = new PretendDesk();
        x.feed(0x62616E6B, 0x62616E6B, 0, 0, 0);
        x.end(8);
        x.end(4);
        x.house();
        Checks.page(x, "box;");
        Checks.name(x, 0, "bank");
        e.is("the first 4 bytes are those of before, spell", x.spell(0, 0), 0);
        x = tapeOf(500);
        e.is("end(500) of 500", x.end(500), 500);
        e.is("end(499) of 500", x.end(499), 499);
        e.is("end(500) of 499", x.end(500), -1);
        e.is("end(0)", x.end(0), 0);
        e.empty("end(0)", x);
        e.is("end(0) of an empty tape", new PretendDesk().end(0), 0);
    }

    /** What was cut off is no more read, whatever stood there. */
    private static void cutOff(Edges e) {
        String[] texts = {"box 12land 123day 99(pin;box5;)", "read pin to 12;put 99 to 5;stop;", "win now.key", "abcdefghijkl"};
        for (String text : texts) {
            for (int n = 0; n <= text.length(); n++) {
                for (Taker taker : TAKERS) {
                    PretendDesk x = deskOfTakers();
                    PretendDesk due = deskOfTakers();
                    Checks.tell(x, text);
                    x.end(n);
                    Checks.tell(due, text.substring(0, n));
                    String call = taker.call + " of '" + text + "' cut at " + n;
                    e.is(call, taker.ask.of(x), taker.ask.of(due));
                    e.is(call + ": fault(0)", x.fault(0), due.fault(0));
                    e.is(call + ": fault(1)", x.fault(1), due.fault(1));
                    e.is(call + ": boxes", x.boxes(1, 3, 99), due.boxes(1, 3, 99));
                    e.is(call + ": sentence", x.sentence(1), due.sentence(1));
                    Checks.letter(x, "win");
                    Checks.letter(due, "win");
                    e.is(call + ": a WORD", x.sentence(0), due.sentence(0));
                }
            }
        }
        // A taken text is no more there, too.
        PretendDesk x = deskOfTakers();
        Checks.letter(x, "box 1234567890;(pin;)(pin;)");
        x.feed(0x626F7820, 0x31323334, 0x3B000000, 0, 0);
        x.end(6);
        e.is("page of 'box 12' where a longer text stood", x.page(), -1);
        e.fault("page of 'box 12' where a longer text stood", x, 1, 6);
    }

    private static void notSoMany(Edges e) {
        for (int had : new int[] {0, 1, 20, 499, 500}) {
            Edges.Maker maker = () -> tapeOf(had);
            for (int n : new int[] {had + 1, had + 20, 501, 512, -1, -had - 1, Integer.MIN_VALUE, Integer.MAX_VALUE}) {
                e.refused("end(" + n + ") of " + had, -1, maker, x -> x.end(n));
            }
        }
        e.refused("end(8) of 7", -1, Desks.RICH, x -> x.end(8));
        e.refused("end(-1)", -1, Desks.RICH, x -> x.end(-1));
        e.is("end(7) of 7", Desks.RICH.make().end(7), 7);
    }

    // ---- promise 8

    /** Every call that takes the tape, with a text that it takes, one with a FAULT, and the FAULT with its place. */
    private record Taker(String call, Edges.Ask ask, String good, String bad, int fault, int place) { }

    private static final Taker[] TAKERS = {
        new Taker("house", PretendDesk::house, "abcdefghijkl", "abcdefghijklm", 2, 12),
        new Taker("name", x -> Edges.bit(x.name(0)), "a", "a b", 1, 1),
        new Taker("own", x -> x.own(0), "box;", "box 10;", 2, 4),
        new Taker("page", PretendDesk::page, "box;", "box", 1, 3),
        new Taker("program", x -> x.program(0), "stop;", "go 21;", 2, 3),
        new Taker("word", x -> x.word(0), "abcdefgh", "abcdefghi", 2, 8),
        new Taker("letter", PretendDesk::letter, "a.", "a;", 1, 1),
    };

    /** A HOUSE without PAGES of its own and a PAGE that came: each of the calls can be done. */
    private static PretendDesk deskOfTakers() {
        PretendDesk x = new PretendDesk();
        Checks.house(x, "bank");
        Checks.page(x, "box;");
        return x;
    }

    private static void latestOfThese(Edges e) {
        for (Taker first : TAKERS) {
            for (Taker second : TAKERS) {
                PretendDesk x = deskOfTakers();
                first.ask.of(Checks.tell(x, first.bad));
                second.ask.of(Checks.tell(x, second.bad));
                e.fault(first.call + ", then " + second.call, x, second.fault, second.place);
                second.ask.of(Checks.tell(x, second.good));
                e.fault(second.call + " without a FAULT", x, 0, -1);
                first.ask.of(Checks.tell(x, first.bad));
                e.fault(first.call + " again", x, first.fault, first.place);
            }
        }
        PretendDesk x = deskOfTakers();
        x.own(0);
        e.fault("own of an empty tape", x, 1, 0);
        Checks.page(x, "box day 100;");
        x.feed(0, 0, 0, 0, 0);
        x.end(21);
        x.end(0);
        x.pattern(0, 0);
        x.look(9, 9, 9, 9);
        x.alike(0, 0, 0);
        x.sentence(0);
        e.fault("calls that take no tape", x, 2, 8);
    }

    private static void faultAndPlace(Edges e) {
        e.fault("a new object", new PretendDesk(), 0, -1);
        for (Taker taker : TAKERS) {
            PretendDesk x = deskOfTakers();
            taker.ask.of(Checks.tell(x, taker.bad));
            e.fault(taker.call + " of '" + taker.bad + "'", x, taker.fault, taker.place);
            e.fault(taker.call + " of '" + taker.bad + "', asked again", x, taker.fault, taker.place);
            taker.ask.of(Checks.tell(x, taker.good));
            e.fault(taker.call + " of '" + taker.good + "'", x, 0, -1);
        }
        PretendDesk x = new PretendDesk();
        x.page();
        e.fault("a place 0", x, 1, 0);
        Checks.page(x, "box(box(box(box(box(box(box;))))))");
        e.fault("the greatest FAULT", x, 4, 24);
    }

    private static void anotherWhat(Edges e) {
        for (int what : new int[] {-1, 2, 3, -2, 256, Integer.MIN_VALUE, Integer.MAX_VALUE}) {
            e.refused("fault(" + what + ") with a FAULT", -1, Desks.RICH, x -> x.fault(what));
            e.refused("fault(" + what + ") without", -1, Desks.NEW, x -> x.fault(what));
        }
        e.is("fault(0)", Desks.RICH.make().fault(0), 2);
        e.is("fault(1)", Desks.RICH.make().fault(1), 4);
    }

    // ---- what is said of all

    private static void none(Edges e) {
        e.is("NONE", PretendDesk.NONE, -1);
        e.is("like(0, 0, 0)", new PretendDesk().like(0, 0, 0), PretendDesk.NONE);
    }

    private static void call512(Edges e) {
        PretendDesk x = new PretendDesk();
        for (int k = 0; k < 127; k++) {
            x.feed(0x62616E6B, 0, 0, 0, 0);
            x.end(4);
            x.end(4);
            x.letter();
        }
        e.is("call 509", x.feed(0x62616E6B, 0, 0, 0, 0), 20);
        e.is("call 510", x.end(4), 4);
        e.is("call 511", x.house(), 0);
        e.is("call 512", x.count(0), 1);
    }
}
