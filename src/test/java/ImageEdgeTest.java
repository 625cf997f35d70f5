import java.util.function.Consumer;

/** The edges of promises 52 to 54: count, image, again. */
public final class ImageEdgeTest {
    public static void main(String[] args) {
        Edges.run("ImageEdgeTest", ImageEdgeTest::sentences);
    }

    static void sentences(Edges e) {
        e.of("Promise 52", "How many: 0 HOUSES, 1 PAGES that came, 2 CASES, 3 .. 5: MARK a, b, c; 6 WORDS, 7 PATTERNS, "
                + "8 SENTENCES of the LETTER;", ImageEdgeTest::howMany);
        e.of("Promise 52", "10 + p: CHANGES of PAGE p, 20 + h: PAGES of HOUSE h, 30 + k: WORTH of KIND k.", ImageEdgeTest::ofOne);
        e.of("Promise 52", "-2: there is none such.", ImageEdgeTest::countOfNone);
        e.of("Promise 53", "Image k (0 .. 2) is all that is told (the tape, the FAULT, too),", ImageEdgeTest::allThatIsTold);
        e.of("Promise 53", "as it is now: true;", ImageEdgeTest::asItIsNow);
        e.of("Promise 53", "false for another k.", ImageEdgeTest::imageOfAnotherK);
        e.of("Promise 54", "All that is as image k has it", ImageEdgeTest::asImageHasIt);
        e.of("Promise 54", "(other images stay): true;", ImageEdgeTest::otherImagesStay);
        e.of("Promise 54", "false if there is none such.", ImageEdgeTest::againOfNone);
    }

    /** Tells something of each sort on RICH. */
    private static void tellAll(PretendDesk x) {
        tellHouses(x, "shop", "form(card;)", "box;");
        Checks.page(x, "text(link 3 land 2 day 5;)");
        Checks.name(x, 0, "bank");
        Checks.name(x, 2, "z");
        x.alike('m', 'n', 5);
        x.stands(0, 77, 0b1110000);
        x.stands(3, 1, 0b111);
        x.worth(2, 1);
        x.marks(1, 1, 3);
        x.keep(2, 60, true);
        x.change(0, 2, 0, 9, 1);
        x.change(2, 0, 1, 0, 4);
        tellPrograms(x, 9, "go 0;", "read box to 0;send 0 to 0;");
        tellWords(x, "gift", 0b1000000, 99);
        x.picture(true, 0, 1);
        x.picture(false, 0, 2);
        Checks.word(x, "?", 0);
        Checks.tell(x, "gift.gift.");
    }

    /** Tells as much, and of all another thing. */
    private static void tellOther(PretendDesk x) {
        tellHouses(x, "other", "card(pin;pass;)", "link(text;)");
        Checks.page(x, "card 1(logo 2 land 1 day 6;text;)");
        Checks.name(x, 0, "sh0p");
        Checks.name(x, 2, "none");
        x.alike('m', 'n', 3);
        x.stands(0, 20, 0b11);
        x.stands(3, 9, 0b11100);
        x.worth(2, 9);
        x.marks(9, 8, 7);
        x.keep(2, 50, false);
        x.change(0, 1, 0, 1, 2);
        x.change(2, 2, 0, 99, 5);
        tellPrograms(x, 1, "put 5 to 5;stop;", "read link to 1;send 1 to 4;");
        tellWords(x, "prize", 0b10001000, -9);
        x.picture(true, 0, 1 << 12 | 1 << 6);
        x.picture(false, 0, 0b1110);
        Checks.letter(x, "!");
        Checks.tell(x, "key. win. win");
    }

    private static void tellHouses(PretendDesk x, String name, String own, String second) {
        Checks.house(x, name);
        Checks.own(x, 3, own);
        Checks.own(x, 1, second);
    }

    private static void tellPrograms(PretendDesk x, int address, String program, String second) {
        x.relay(2, address);
        x.relay(6, address == 1 ? -1 : address);
        x.owner(3, address == 1 ? 2 : 1);
        x.owner(address, 1);
        Checks.program(x, 0, program);
        Checks.program(x, 2, second);
    }

    private static void tellWords(PretendDesk x, String word, int meanings, int weight) {
        Checks.word(x, "win", 7);
        Checks.word(x, word, 6 - word.length() % 2 * 3);
        x.pattern(meanings, weight);
        Checks.letter(x, word + ". win " + word + ". now");
    }

    // ---- count

    private static void howMany(Edges e) {
        int[] full = {5, 10, 16, 10, 40, 30, 0, 0, 0};
        int[] wordy = {0, 0, 0, 10, 40, 30, 20, 8, 4};
        int[] rich = {3, 5, 3, 10, 40, 30, 3, 2, 3};
        for (int what = 0; what < 9; what++) {
            e.is("count(" + what + ") of FULL", Desks.FULL.make().count(what), full[what]);
            e.is("count(" + what + ") of WORDY", Desks.WORDY.make().count(what), wordy[what]);
            e.is("count(" + what + ") of RICH", Desks.RICH.make().count(what), rich[what]);
        }
        PretendDesk x = new PretendDesk();
        x.marks(60, 200, 99);
        e.is("count(3)", x.count(3), 60);
        e.is("count(4)", x.count(4), 200);
        e.is("count(5)", x.count(5), 99);
    }

    private static void ofOne(Edges e) {
        PretendDesk x = Desks.FULL.make();
        for (int page = 0; page < 10; page++) {
            e.is("count(" + (10 + page) + ")", x.count(10 + page), page == 0 ? 6 : 0);
            x.change(page, 2, 0, 1, 1);
            e.is("count(" + (10 + page) + ") behind a CHANGE", x.count(10 + page), page == 0 ? 6 : 1);
        }
        for (int house = 0; house < 5; house++) {
            e.is("count(" + (20 + house) + ")", x.count(20 + house), 2);
        }
        x = Desks.RICH.make();
        int[] changes = {3, 1, 0, 0, 0};
        int[] own = {2, 1, 0};
        int[] worth = {1, 0, 50, 60, 70, 0, 0, 3};
        for (int k = 0; k < changes.length; k++) {
            e.is("count(" + (10 + k) + ")", x.count(10 + k), changes[k]);
        }
        for (int k = 0; k < own.length; k++) {
            e.is("count(" + (20 + k) + ")", x.count(20 + k), own[k]);
        }
        for (int k = 0; k < worth.length; k++) {
            e.is("count(" + (30 + k) + ")", x.count(30 + k), worth[k]);
        }
    }

    private static void countOfNone(Edges e) {
        int[] always = {9, -1, -2, -10, -11, -15, -20, -30, 25, 26, 27, 28, 29, 38, 39, 40, 41, 50, 100, 110, 130, 256, 266, Integer.MIN_VALUE,
            Integer.MIN_VALUE + 10, Integer.MAX_VALUE};
        for (int what : always) {
            e.refused("count(" + what + ") of FULL", -2, Desks.FULL, x -> x.count(what));
            e.refused("count(" + what + ") of RICH", -2, Desks.RICH, x -> x.count(what));
        }
        for (int what : new int[] {15, 16, 19, 23, 24}) {
            e.refused("count(" + what + ") of RICH, the next one", -2, Desks.RICH, x -> x.count(what));
            e.is("count(" + what + ") of FULL", Desks.FULL.make().count(what) >= 0, true);
        }
        for (int what = 9; what < 30; what++) {
            int asked = what;
            e.refused("count(" + what + ") of a new object", -2, Desks.NEW, x -> x.count(asked));
        }
        for (int pages = 0; pages < 10; pages++) {
            PretendDesk x = new PretendDesk();
            for (int k = 0; k < pages; k++) {
                Checks.page(x, "box;");
            }
            e.is("the next PAGE's CHANGES", x.count(10 + pages), -2);
            e.is("the last PAGE's CHANGES", pages == 0 ? 0 : x.count(9 + pages), 0);
        }
    }

    // ---- image and again

    private static PretendDesk imaged(int k, Edges.Maker maker) {
        PretendDesk x = maker.make();
        x.image(k);
        return x;
    }

    private static void allThatIsTold(Edges e) {
        for (int k = 0; k < 3; k++) {
            int image = k;
            for (Edges.Maker maker : new Edges.Maker[] {Desks.RICH, Desks.NEW, Desks.FULL, Desks.WORDY}) {
                Edges.Maker before = () -> imaged(image, maker);
                e.same("again(" + k + ") behind much else", () -> {
                    PretendDesk x = before.make();
                    tellAll(x);
                    x.again(image);
                    return x;
                }, before);
            }
            e.is("image(" + k + ")", Desks.RICH.make().image(k), true);
        }
        // The tape of 500 bytes and of none, and a FAULT.
        PretendDesk x = new PretendDesk();
        for (int k = 0; k < 25; k++) {
            x.feed(0x61616161, 0x61616161, 0x61616161, 0x61616161, k < 24 ? 0x61616161 : 0x6161613F);
        }
        x.image(0);
        x.letter();
        x.image(1);
        x.again(0);
        e.is("500 bytes again", x.feed(0, 0, 0, 0, 0), -1);
        e.fault("before the letter", x, 0, -1);
        x.letter();
        e.fault("the 500th byte again", x, 1, 499);
        x.again(1);
        e.empty("no byte again", x);
        e.fault("behind the letter", x, 1, 499);
    }

    private static void asItIsNow(Edges e) {
        for (int k = 0; k < 3; k++) {
            int image = k;
            // What is told behind it is not in it; a later image takes the place of an earlier one.
            e.same("image(" + k + ") once more", () -> {
                PretendDesk x = imaged(image, Desks.RICH);
                tellAll(x);
                x.image(image);
                return x;
            }, () -> {
                PretendDesk x = Desks.RICH.make();
                tellAll(x);
                x.image(image);
                return x;
            });
            e.same("image(" + k + ") leaves what is now", () -> {
                PretendDesk x = imaged(image, Desks.RICH);
                x.image(image);
                return x;
            }, () -> imaged(image, Desks.RICH));
        }
        PretendDesk x = Desks.RICH.make();
        x.image(2);
        x.marks(1, 1, 1);
        e.is("what is told behind it is now", x.count(3), 1);
        x.again(2);
        e.is("and not in it", x.count(3), 10);
    }

    private static void imageOfAnotherK(Edges e) {
        for (int k : new int[] {-1, 3, 4, -2, 256, Integer.MIN_VALUE, Integer.MAX_VALUE}) {
            e.refused("image(" + k + ")", 0, Desks.RICH, x -> Edges.bit(x.image(k)));
            e.refused("image(" + k + ")", 0, Desks.NEW, x -> Edges.bit(x.image(k)));
        }
        for (int k = 0; k < 3; k++) {
            e.is("image(" + k + ")", new PretendDesk().image(k), true);
        }
    }

    private static void asImageHasIt(Edges e) {
        for (int k = 0; k < 3; k++) {
            e.is("again(" + k + ")", imaged(k, Desks.RICH).again(k), true);
            int image = k;
            e.same("again(" + k + ") at once", () -> {
                PretendDesk x = imaged(image, Desks.RICH);
                x.again(image);
                return x;
            }, () -> imaged(image, Desks.RICH));
            e.same("again(" + k + ") twice, with much told between", () -> {
                PretendDesk x = imaged(image, Desks.RICH);
                tellAll(x);
                x.again(image);
                tellAll(x);
                x.again(image);
                return x;
            }, () -> imaged(image, Desks.RICH));
            e.same("what is told behind again(" + k + ")", () -> {
                PretendDesk x = imaged(image, Desks.RICH);
                Checks.page(x, "card 9(card 9;)");
                Checks.house(x, "elsewhere");
                x.again(image);
                tellAll(x);
                return x;
            }, () -> {
                PretendDesk x = imaged(image, Desks.RICH);
                tellAll(x);
                return x;
            });
        }
        // An image of a new object: all is gone.
        PretendDesk x = new PretendDesk();
        x.image(0);
        tellAll(x);
        x.again(0);
        for (int what = 0; what < 9; what++) {
            e.is("count(" + what + ")", x.count(what), new PretendDesk().count(what));
        }
        e.fault("the FAULT", x, 0, -1);
        e.empty("the tape", x);
    }

    private static PretendDesk told(Consumer<PretendDesk> tell) {
        PretendDesk x = Desks.TOLD.make();
        tell.accept(x);
        return x;
    }

    /** From one image two ways are told, and each kept as an image: each is as if there were no other. */
    private static void twoWays(Edges e) {
        for (int k = 0; k < 3; k++) {
            int one = k;
            int other = (k + 1) % 3;
            int before = (k + 2) % 3;
            Edges.Maker both = () -> {
                PretendDesk x = Desks.TOLD.make();
                x.image(before);
                tellAll(x);
                x.image(one);
                x.again(before);
                tellOther(x);
                x.image(other);
                x.again(before);
                return x;
            };
            e.sameNow("again(" + one + ") of two ways", () -> {
                PretendDesk x = both.make();
                x.again(one);
                return x;
            }, () -> told(ImageEdgeTest::tellAll));
            e.sameNow("again(" + other + ") of two ways", () -> {
                PretendDesk x = both.make();
                x.again(other);
                return x;
            }, () -> told(ImageEdgeTest::tellOther));
            e.sameNow("again(" + before + "), before both", both, Desks.TOLD);
            // The first CASE of all, the one way and the other.
            PretendDesk x = Desks.bank("box;", "box;").make();
            x.image(before);
            x.keep(0, 9, true);
            x.image(one);
            x.again(before);
            x.keep(0, 7, false);
            x.again(one);
            e.is("c for one that PRETENDS", x.fit(0, 2), 9);
            x.again(before);
            x.keep(0, 5, true);
            e.is("c for another one", x.fit(0, 2), 5);
            x.again(one);
            e.is("c for the first one again", x.fit(0, 2), 9);
        }
    }

    private static void otherImagesStay(Edges e) {
        twoWays(e);
        for (int k = 0; k < 3; k++) {
            PretendDesk x = new PretendDesk();
            for (int image = 0; image < 3; image++) {
                x.marks(10 + image, 20 + image, 30 + image);
                e.is("image(" + image + ")", x.image(image), true);
            }
            e.is("again(" + k + ")", x.again(k), true);
            x.marks(1, 1, 1);
            for (int image = 0; image < 3; image++) {
                e.is("again(" + image + ")", x.again(image), true);
                for (int mark = 0; mark < 3; mark++) {
                    e.is("MARK " + mark + " of image " + image, x.count(3 + mark), 10 * (mark + 1) + image);
                }
            }
        }
        // RICH has images 0 and 1: behind again(0) image 1 is as it was, and 2 is none still.
        PretendDesk x = Desks.RICH.make();
        e.is("again(0)", x.again(0), true);
        e.is("count(1) of image 0", x.count(1), 4);
        e.is("again(1)", x.again(1), true);
        e.is("count(1) of image 1", x.count(1), 5);
        e.is("again(2)", x.again(2), false);
        PretendDesk y = new PretendDesk();
        e.is("another object has none", y.again(0), false);
    }

    private static void againOfNone(Edges e) {
        for (int k : new int[] {2, -1, 3, 4, 256, Integer.MIN_VALUE, Integer.MAX_VALUE}) {
            e.refused("again(" + k + ") with images 0 and 1", 0, Desks.RICH, x -> Edges.bit(x.again(k)));
        }
        for (int k = -1; k < 4; k++) {
            int image = k;
            e.refused("again(" + k + ") without images", 0, Desks.FULL, x -> Edges.bit(x.again(image)));
        }
        for (int k = 0; k < 3; k++) {
            for (int other = 0; other < 3; other++) {
                e.is("again(" + other + ") with image " + k, imaged(k, Desks.NEW).again(other), other == k);
            }
        }
    }
}
