/** Promises 52 to 54: count, image, again. */
public final class ImageTest {
    private static final Checks CHECKS = new Checks("ImageTest");

    public static void main(String[] args) {
        count();
        wrong();
        all();
        several();
        CHECKS.end();
    }

    private static void count() {
        PretendDesk x = new PretendDesk();
        int[] none = {-1, -10, -11, 9, 10, 19, 20, 25, 29, 38, 39, 40, 100, Integer.MIN_VALUE, Integer.MAX_VALUE};
        for (int what : none) {
            CHECKS.is("count(" + what + ")", x.count(what), -2);
        }
        for (int k = 0; k < 10; k++) {
            CHECKS.is("not there yet", x.count(10 + k), -2);
            Checks.page(x, "box;");
            CHECKS.is("count(1)", x.count(1), k + 1);
            for (int c = 0; c < k % 7; c++) {
                x.change(k, 2, 0, 1, 1);
            }
            CHECKS.is("changes", x.count(10 + k), k % 7);
        }
        for (int k = 0; k < 5; k++) {
            CHECKS.is("not there yet", x.count(20 + k), -2);
            Checks.house(x, "a" + k);
            CHECKS.is("count(0)", x.count(0), k + 1);
            for (int c = 0; c < k % 3; c++) {
                Checks.own(x, k, "box;");
            }
            CHECKS.is("its own", x.count(20 + k), k % 3);
        }
        CHECKS.is("count(25)", x.count(25), -2);
        x.marks(1, 2, 3);
        for (int k = 3; k < 6; k++) {
            CHECKS.is("marks", x.count(k), k - 2);
        }
        x.worth(7, 5);
        CHECKS.is("worth", x.count(37), 5);
        x.keep(0, 0, true);
        x.keep(0, 0, true);
        CHECKS.is("cases", x.count(2), 2);
        Checks.word(x, "a", 1);
        CHECKS.is("words", x.count(6), 1);
        x.pattern(1, 1);
        x.pattern(1, 1);
        x.pattern(1, 1);
        CHECKS.is("patterns", x.count(7), 3);
        Checks.letter(x, "a.b.c.d");
        CHECKS.is("sentences", x.count(8), 4);
    }

    private static void wrong() {
        PretendDesk x = new PretendDesk();
        CHECKS.is("image(3)", x.image(3), false);
        CHECKS.is("image(-1)", x.image(-1), false);
        CHECKS.is("again(0)", x.again(0), false);
        CHECKS.is("image(0)", x.image(0), true);
        CHECKS.is("again(1)", x.again(1), false);
        CHECKS.is("again(3)", x.again(3), false);
        CHECKS.is("again(-1)", x.again(-1), false);
        CHECKS.is("again(0)", x.again(0), true);
    }

    /** Everything that can be told, told in two ways; each answer that shows one of them. */
    private static void tell(PretendDesk x, int way) {
        Checks.house(x, "bank" + way);
        Checks.own(x, 0, way == 0 ? "box(pass;)" : "box(pass;pin;)");
        Checks.page(x, way == 0 ? "box(pass;pin land 2;)" : "link day 4;");
        Checks.page(x, "box 1;");
        Checks.name(x, 0, way == 0 ? "bank0" : "b0nk");
        x.alike('a', '0', 1 + way);
        x.stands(0, 7 + way, 0b11 << way);
        x.stands(1, 0, 0b110);
        x.worth(0, 3 + way);
        x.marks(1 + way, 2 + way, 3 + way);
        x.keep(0, 5, way == 0);
        x.change(0, 1, 0, 5, 6 + way);
        Checks.program(x, 0, way == 0 ? "read pin to 1;send 1 to 2;" : "read card to 1;send 1 to 2;stop;");
        x.relay(2, 5 + way);
        x.owner(5, way == 0 ? 0 : -1);
        Checks.word(x, "win", 1 + way);
        x.pattern(2, 5 + way);
        Checks.letter(x, way == 0 ? "win. a. b" : "win");
        x.picture(true, 0, 0b111 << way);
        x.picture(false, 0, 0b10000 >> way);
        Checks.page(x, way == 0 ? "box 10;" : "pinn;");
        x.feed(0x626F7830 + way, 0, 0, 0, 0);
        x.end(4 + way);
    }

    private static String shown(PretendDesk x) {
        StringBuilder all = new StringBuilder();
        int[] shown = {x.fault(0), x.fault(1), x.spell(0, 0), x.boxes(0, 2, 5), x.box(0, 0, 0), x.look(0, 0, 0, 0),
            x.asks(0, 2, 9), x.signs(0, 0, 9), x.fit(1, 2), x.fit(1, 3), x.pass(0, 9, 99, 0, 0), x.odds(0, 1, 0),
            x.sketch(0, 16), x.sent(0, 3, 2), x.steps(0, 3), x.taken(0, 3), x.goes(2, false), x.sentence(0),
            x.holds(0), x.presses(), x.unlike(0, 0)};
        for (int answer : shown) {
            all.append(answer).append(' ');
        }
        for (int what = 0; what < 40; what++) {
            all.append(x.count(what)).append(' ');
        }
        return all.toString();
    }

    private static String tapeOf(PretendDesk x) {
        int length = x.feed(0, 0, 0, 0, 0) - 20;
        x.end(length);
        int box = x.page();
        return length + " " + box + " " + x.fault(0) + " " + x.fault(1);
    }

    private static void all() {
        PretendDesk x = new PretendDesk();
        String empty = shown(x);
        CHECKS.is("image(2)", x.image(2), true);
        tell(x, 0);
        String first = shown(x);
        CHECKS.is("image(0)", x.image(0), true);
        String firstTape = tapeOf(x);
        CHECKS.is("again(2)", x.again(2), true);
        CHECKS.is("it is empty again", shown(x).equals(empty), true);
        tell(x, 1);
        String second = shown(x);
        CHECKS.is("another one", !second.equals(first) && !second.equals(empty), true);
        CHECKS.is("image(1)", x.image(1), true);
        String secondTape = tapeOf(x);
        CHECKS.is("other tapes", !firstTape.equals(secondTape), true);
        for (int round = 0; round < 2; round++) {
            CHECKS.is("again(0)", x.again(0), true);
            CHECKS.is("as image 0 has it", shown(x).equals(first), true);
            CHECKS.is("its tape", tapeOf(x).equals(firstTape), true);
            CHECKS.is("again(1)", x.again(1), true);
            CHECKS.is("as image 1 has it", shown(x).equals(second), true);
            CHECKS.is("its tape", tapeOf(x).equals(secondTape), true);
        }
        CHECKS.is("again(2)", x.again(2), true);
        CHECKS.is("as image 2 has it", shown(x).equals(empty), true);
        tell(x, 1);
        CHECKS.is("told on an image", shown(x).equals(second), true);
        CHECKS.is("the image is not told on", x.again(2), true);
        CHECKS.is("the image is not told on", shown(x).equals(empty), true);
        tell(x, 0);
        CHECKS.is("nothing is left of the others", shown(x).equals(first), true);
    }

    private static void several() {
        PretendDesk x = new PretendDesk();
        Checks.page(x, "box;");
        x.image(0);
        Checks.page(x, "box;");
        x.image(0);
        Checks.page(x, "box;");
        x.again(0);
        CHECKS.is("the later image", x.count(1), 2);
        x.image(1);
        Checks.page(x, "pin;");
        x.again(1);
        CHECKS.is("other images stay", x.count(1), 2);
        x.again(0);
        CHECKS.is("other images stay", x.count(1), 2);
        PretendDesk y = new PretendDesk();
        CHECKS.is("another desk has none of it", y.again(0), false);
        CHECKS.is("another desk has none of it", y.count(1), 0);
    }
}
