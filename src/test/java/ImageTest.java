import java.util.List;

/** Promises 52 to 54: count, image, again. */
public final class ImageTest {
    private static final Checks CHECKS = new Checks("ImageTest");

    public static void main(String[] args) {
        count();
        wrong();
        all();
        several();
        CHECKS.end();
    }

    private static void count() {
        PretendDesk x = new PretendDesk();
        int[] none = {-1, -10, -11, 9, 10, 19, 20, 25, 29, 38, 39, 40, 100, Integer.MIN_VALUE, Integer.MAX_VALUE};
        for (int what : none) {
            CHECKS.is("count(" + what + ")", x.count(what), -2);
        }
        for (int k = 0; k < 10; k++) {
            CHECKS.is("not there yet", x.count(10 + k), -2);
            Checks.page(x, "box;");
            CHECKS.is("count(1)", x.count(1), k + 1);
            for (int c = 0; c < k % 7; c++) {
                x.change(k, 2, 0, 1, 1);
            }
            CHECKS.is("changes", x.count(10 + k), k % 7);
        }
        for (int k = 0; k < 5; k++) {
            CHECKS.is("not there yet", x.count(20 + k), -2);
            Checks.house(x, "a" + k);
            CHECKS.is("count(0)", x.count(0), k + 1);
            for (int c = 0; c < k % 3; c++) {
                Checks.own(x, k, "box;");
            }
            CHECKS.is("its own", x.count(20 + k), k % 3);
        }
        CHECKS.is("count(25)", x.count(25), -2);
        x.marks(1, 2, 3);
        for (int k = 3; k < 6; k++) {
            CHECKS.is("marks", x.count(k), k - 2);
        }
        x.worth(7, 5);
        CHECKS.is("worth", x.count(37), 5);
        x.keep(0, 0, true);
        x.keep(0, 0, true);
        CHECKS.is("cases", x.count(2), 2);
        Checks.word(x, "a", 1);
        CHECKS.is("words", x.count(6), 1);
        x.pattern(1, 1);
        x.pattern(1, 1);
        x.pattern(1, 1);
        CHECKS.is("patterns", x.count(7), 3);
        Checks.letter(x, "a.b.c.d");
        CHECKS.is("sentences", x.count(8), 4);
    }

    private static void wrong() {
        PretendDesk x = new PretendDesk();
        CHECKS.is("image(3)", x.image(3), false);
        CHECKS.is("image(-1)", x.image(-1), false);
        CHECKS.is("again(0)", x.again(0), false);
        CHECKS.is("image(0)", x.image(0), true);
        CHECKS.is("again(1)", x.again(1), false);
        CHECKS.is("again(3)", x.again(3), false);
        CHECKS.is("again(-1)", x.again(-1), false);
        CHECKS.is("again(0)", x.again(0), true);
    }

    /** Tells a desk something in one of three ways: 0, 1, 2. */
    private interface Teller {
        void tell(PretendDesk x, int way);
    }

    private interface Asker {
        int ask(PretendDesk x);
    }

    /** Two houses with pages and two pages that came: enough to tell and ask most things of. */
    private static PretendDesk desk() {
        PretendDesk x = new PretendDesk();
        Checks.house(x, "bank");
        Checks.own(x, 0, "box(pass;)");
        Checks.house(x, "shop");
        Checks.own(x, 1, "link(text;text;)");
        Checks.page(x, "box(pass;)");
        Checks.page(x, "box(card;text;)");
        return x;
    }

    /** One thing that is told: images have it as it was, and what is asked or told later stays out of them. */
    private static void field(String name, Teller teller, Asker asker) {
        int[] due = new int[3];
        for (int way = 0; way < 3; way++) {
            PretendDesk alone = desk();
            teller.tell(alone, way);
            due[way] = asker.ask(alone);
        }
        CHECKS.is(name + " has three answers", due[0] != due[1] && due[1] != due[2] && due[0] != due[2], true);
        PretendDesk x = desk();
        x.image(2);
        teller.tell(x, 0);
        x.image(0);
        x.again(2);
        teller.tell(x, 1);
        x.image(1);
        x.again(2);
        teller.tell(x, 2);
        CHECKS.is(name + " now", asker.ask(x), due[2]);
        x.again(0);
        CHECKS.is(name + " of image 0", asker.ask(x), due[0]);
        x.again(1);
        CHECKS.is(name + " of image 1", asker.ask(x), due[1]);
        x.again(0);
        CHECKS.is(name + " of image 0 again", asker.ask(x), due[0]);
        x.again(2);
        teller.tell(x, 1);
        CHECKS.is(name + " told on image 2", asker.ask(x), due[1]);
    }

    private static void times(int times, Runnable call) {
        for (int k = 0; k < times; k++) {
            call.run();
        }
    }

    private static void all() {
        field("length of the tape", (x, way) -> times(way, () -> x.feed(0, 0, 0, 0, 0)), x -> x.feed(0, 0, 0, 0, 0));
        field("bytes of the tape", (x, way) -> Checks.tell(x, List.of("box;", "pin;", "text;").get(way)),
                x -> x.page() + 10 * x.box(2, 0, 0));
        field("FAULT", (x, way) -> Checks.page(x, List.of("box;", "?", "box 10;").get(way)), x -> x.fault(0));
        field("its place", (x, way) -> Checks.letter(x, "   ".substring(way) + "?"), x -> x.fault(1));
        houses();
        pages();
        cases();
        programs();
        letters();
    }

    private static void houses() {
        List<String> names = List.of("bank", "bnak", "banks");
        field("HOUSES", (x, way) -> times(way, () -> Checks.house(x, "a")), x -> x.count(0));
        field("NAME of a HOUSE", (x, way) -> Checks.house(x, names.get(way)), x -> {
            Checks.name(x, 0, "bank");
            return x.spell(0, 2);
        });
        field("PAGES of a HOUSE", (x, way) -> {
            Checks.house(x, "a");
            times(way, () -> Checks.own(x, 2, "box;"));
        }, x -> x.count(22));
        List<String> own = List.of("box(card;text;)", "box(card;text 1;)", "box(card;text;link;)");
        field("a PAGE of a HOUSE", (x, way) -> Checks.own(x, 0, own.get(way)), x -> x.look(1, 0, 0, 0));
        field("the first PAGE of a HOUSE", (x, way) -> {
            Checks.house(x, "a");
            Checks.own(x, 2, own.get(way));
        }, x -> x.look(1, 2, 0, 0));
        field("PICTURE of a HOUSE", (x, way) -> x.picture(false, 0, 0b111 >> way), x -> x.unlike(0, 0));
        field("ALIKE", (x, way) -> x.alike('m', 'n', 1 + way), x -> {
            Checks.name(x, 0, "bamk");
            return x.spell(0, 0);
        });
        field("WORTH", (x, way) -> x.worth(0, way), x -> x.count(30));
        field("MARK a", (x, way) -> x.marks(way, 0, 0), x -> x.count(3));
        field("MARK b", (x, way) -> x.marks(0, way, 0), x -> x.count(4));
        field("MARK c", (x, way) -> x.marks(0, 0, way), x -> x.count(5));
    }

    private static void pages() {
        List<String> names = List.of("bank", "bnak", "banks");
        List<String> texts = List.of("form(pin land 3;)", "form(pin land 2;)", "form(pin day 4;)");
        field("PAGES", (x, way) -> times(way, () -> Checks.page(x, "box;")), x -> x.count(1));
        for (int what = 0; what < 5; what++) {
            int asked = what;
            List<String> boxes = List.of("box(pin 1 land 1 day 1;)", "box(text(box 2 land 2 day 2;))", "box 4(card;card(logo;))");
            List<Integer> box = List.of(1, 2, 3);
            field("BOX " + what, (x, way) -> Checks.page(x, boxes.get(way)), x -> {
                int k = x.boxes(2, 1, 99) == 2 && x.box(2, 1, 0) == 4 ? 0 : x.box(2, 1, 0) == 6 ? 1 : 2;
                return 10 * x.box(2, box.get(k), asked) + k;
            });
        }
        field("a text", (x, way) -> Checks.page(x, texts.get(way)), x -> x.boxes(2, 3, 0) + 2 * x.boxes(2, 2, 4) + 4 * x.boxes(2, 1, 4));
        field("NAME", (x, way) -> Checks.name(x, 0, names.get(way)), x -> x.spell(0, 0));
        field("since when", (x, way) -> x.stands(0, 5 * way, 0), x -> {
            int day = 0;
            while (day < 99 && (x.signs(0, 0, day) & 4) != 0) {
                day++;
            }
            return day;
        });
        field("PIECES", (x, way) -> x.stands(0, 0, 0b111 >> way), x -> x.odds(1, 0, 1));
        field("PICTURE", (x, way) -> x.picture(true, 0, 0b11100000000 >> way & 0b11100000000), x -> {
            x.picture(false, 0, 0b11100000000);
            return x.unlike(0, 0);
        });
        field("CHANGES", (x, way) -> times(way, () -> x.change(0, 2, 0, 1, 1)), x -> x.count(10));
        field("a CHANGE", (x, way) -> x.change(0, 0, 1, 0, 5 + way), x -> x.pass(0, 0, 99, 0, 0));
    }

    private static void cases() {
        field("CASES", (x, way) -> times(way, () -> x.keep(0, 0, true)), x -> x.count(2));
        field("PAGE of a CASE", (x, way) -> {
            Checks.page(x, "box(pass;link;)");
            x.keep(way, 0, true);
        }, x -> x.fit(0, 0));
        field("DAY of a CASE", (x, way) -> x.keep(0, 10 * way, true), x -> x.fit(0, 2));
        field("what a CASE is", (x, way) -> {
            x.keep(0, 0, way != 0);
            times(way / 2, () -> x.keep(0, 0, false));
        }, x -> x.fit(0, 1) + 1000 * x.fit(0, 3));
    }

    private static void programs() {
        List<String> programs = List.of("read box to 0;send 0 to 1;", "read pin to 0;send 0 to 1;", "read card to 3;send 3 to 1;");
        field("LINES", (x, way) -> Checks.program(x, 0, "put 1 to 1;put 1 to 1;".substring(11 * way)), x -> x.steps(0, 0));
        field("a PROGRAM", (x, way) -> Checks.program(x, 0, programs.get(way)), x -> x.sent(0, 3, 1));
        field("RELAYS", (x, way) -> x.relay(0, 1 + way), x -> x.goes(0, false));
        field("OWNERS", (x, way) -> x.owner(1, way - 1), x -> {
            Checks.page(x, "link(text;text;)");
            Checks.program(x, 0, "read box to 0;send 0 to 1;");
            Checks.program(x, 2, "read form to 0;send 0 to 1;");
            return x.taken(0, 3) + x.taken(2, 3);
        });
    }

    private static void letters() {
        field("WORDS", (x, way) -> times(way, () -> Checks.word(x, "w" + (x.count(6) == 0 ? "" : "w"), 1)), x -> x.count(6));
        field("MEANING", (x, way) -> Checks.word(x, "win", way), x -> {
            Checks.letter(x, "win");
            return x.sentence(0);
        });
        field("a WORD", (x, way) -> Checks.word(x, List.of("win", "now", "key").get(way), 0), x -> {
            Checks.letter(x, "win.now.key");
            return x.sentence(0) + 2 * x.sentence(1) + 4 * x.sentence(2);
        });
        field("length of a WORD", (x, way) -> Checks.word(x, "win".substring(way), 0), x -> {
            Checks.letter(x, "win.in.n");
            return x.sentence(0) + 2 * x.sentence(1) + 4 * x.sentence(2);
        });
        field("PATTERNS", (x, way) -> times(way, () -> x.pattern(1, 1)), x -> x.count(7));
        field("MEANINGS of a PATTERN", (x, way) -> x.pattern(1 << way, 1), x -> {
            Checks.word(x, "a", 0);
            Checks.word(x, "b", 1);
            Checks.word(x, "c", 2);
            Checks.letter(x, "a.b.c");
            return x.holds(0);
        });
        field("WEIGHT", (x, way) -> x.pattern(1, way - 1), x -> {
            Checks.word(x, "a", 0);
            Checks.letter(x, "a");
            return x.presses();
        });
        field("SENTENCES", (x, way) -> Checks.letter(x, "a.a.".substring(2 * way)), x -> x.count(8));
        field("the LETTER", (x, way) -> Checks.letter(x, List.of("a", "b", "c").get(way)), x -> {
            Checks.word(x, "a", 0);
            Checks.word(x, "b", 1);
            return x.sentence(0);
        });
    }

    private static void several() {
        PretendDesk x = new PretendDesk();
        Checks.page(x, "box;");
        x.image(0);
        Checks.page(x, "box;");
        x.image(0);
        Checks.page(x, "box;");
        x.again(0);
        CHECKS.is("the later image", x.count(1), 2);
        x.image(1);
        Checks.page(x, "pin;");
        x.again(1);
        CHECKS.is("other images stay", x.count(1), 2);
        x.again(0);
        CHECKS.is("other images stay", x.count(1), 2);
        PretendDesk y = new PretendDesk();
        CHECKS.is("another desk has none of it", y.again(0), false);
        CHECKS.is("another desk has none of it", y.count(1), 0);
    }
}
