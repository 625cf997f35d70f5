/** Promises 1 to 3 and 8: a new object, feed, end, fault. */
public final class TapeTest {
    private static final Checks CHECKS = new Checks("TapeTest");

    public static void main(String[] args) {
        newObject();
        feed();
        end();
        fault();
        cut();
        full();
        CHECKS.end();
    }

    private static void newObject() {
        PretendDesk x = new PretendDesk();
        int[] due = {0, 0, 0, 10, 40, 30, 0, 0, 0};
        for (int what = 0; what < due.length; what++) {
            CHECKS.is("count(" + what + ")", x.count(what), due[what]);
        }
        int[] worth = {0, 0, 50, 60, 70, 0, 0, 0};
        for (int kind = 0; kind < worth.length; kind++) {
            CHECKS.is("worth of " + kind, x.count(30 + kind), worth[kind]);
        }
        CHECKS.is("count(10)", x.count(10), -2);
        CHECKS.is("count(20)", x.count(20), -2);
        for (int address = 0; address < 10; address++) {
            CHECKS.is("goes", x.goes(address, false), address);
        }
        for (int k = -1; k < 4; k++) {
            CHECKS.is("again(" + k + ")", x.again(k), false);
        }
        CHECKS.fault("new", x, 0, -1);
        CHECKS.is("an empty tape", x.end(1), -1);
        CHECKS.is("presses()", x.presses(), 0);
        Checks.house(x, "ab");
        Checks.page(x, "box;");
        Checks.name(x, 0, "cb");
        CHECKS.is("no signs ALIKE", x.spell(0, 0), 6);
        CHECKS.is("no PICTURES", x.unlike(0, 0), 0);
        CHECKS.is("no CHANGES", x.count(10), 0);
        CHECKS.is("no PAGES of its own", x.count(20), 0);
        CHECKS.is("no PIECES", x.ring(0, 1), 1);
    }

    private static void feed() {
        PretendDesk x = new PretendDesk();
        for (int k = 1; k <= 25; k++) {
            CHECKS.is("feed " + k, x.feed(0, 0, 0, 0, 0), 20 * k);
        }
        CHECKS.is("feed 26", x.feed(0x61616161, 0x61616161, 0x61616161, 0x61616161, 0x61616161), -1);
        CHECKS.is("all are there", x.end(500), 500);
        CHECKS.is("end(481)", x.end(481), 481);
        CHECKS.is("one too many", x.feed(1, 2, 3, 4, 5), -1);
        CHECKS.is("nothing came", x.end(482), -1);
        CHECKS.is("end(480)", x.end(480), 480);
        CHECKS.is("just 500", x.feed(1, 2, 3, 4, 5), 500);

        x = new PretendDesk();
        x.feed(0x61626364, 0x65666768, 0x696A6B6C, 0x6D6E6F70, 0x71727374);
        x.end(8);
        x.feed(0x78797A30, 0x31323334, 0, 0, 0);
        x.end(12);
        CHECKS.is("house()", x.house(), 0);
        Checks.page(x, "box;");
        Checks.name(x, 0, "abcdefghxyz0");
        CHECKS.is("the highest byte first, behind what is there", x.spell(0, 0), 0);

        x.feed(0xFFFFFFFF, 0x80FF00FE, 0, 0, 0);
        x.end(8);
        CHECKS.is("bytes above 127", x.house(), -1);
        CHECKS.fault("bytes above 127", x, 1, 0);
        Checks.tell(x, "abc\u00ff");
        CHECKS.is("a byte above 127", x.house(), -1);
        CHECKS.fault("a byte above 127", x, 1, 3);
    }

    private static void end() {
        PretendDesk x = new PretendDesk();
        CHECKS.is("end(0)", x.end(0), 0);
        CHECKS.is("end(1)", x.end(1), -1);
        CHECKS.is("end(-1)", x.end(-1), -1);
        x.feed(0x61626364, 0, 0, 0, 0);
        CHECKS.is("end(21)", x.end(21), -1);
        CHECKS.is("end(20)", x.end(20), 20);
        CHECKS.is("end(3)", x.end(3), 3);
        CHECKS.is("end(4)", x.end(4), -1);
        CHECKS.is("end(-1)", x.end(-1), -1);
        CHECKS.is("end(MIN)", x.end(Integer.MIN_VALUE), -1);
        CHECKS.is("it stays", x.feed(0, 0, 0, 0, 0), 23);
        x.end(3);
        CHECKS.is("house()", x.house(), 0);
    }

    /** What was cut off is no more read, though a token would go on with it. */
    private static void cut() {
        PretendDesk x = new PretendDesk();
        String[] texts = {"boxx", "box ", "box(", "box;"};
        for (String text : texts) {
            Checks.tell(x, text);
            x.end(3);
            CHECKS.is("box, then " + text, x.page(), -1);
            CHECKS.fault("box, then " + text, x, 1, 3);
        }
        Checks.tell(x, "box 12;");
        x.end(5);
        CHECKS.is("box 1", x.page(), -1);
        CHECKS.fault("box 1", x, 1, 5);
        Checks.tell(x, "a.b");
        x.end(1);
        CHECKS.is("a letter of one word", x.letter(), 1);
        Checks.tell(x, "stop;stop;");
        x.end(5);
        CHECKS.is("a page", Checks.page(x, "box;"), 0);
        x.end(0);
        Checks.tell(x, "stop;stop;");
        x.end(5);
        CHECKS.is("one line", x.program(0), 1);
    }

    /** 500 bytes of one sort, up to the tape's last one. */
    private static void full() {
        for (char sign : "b7 ;(.<\n\0\u00ff".toCharArray()) {
            PretendDesk x = new PretendDesk();
            Checks.page(x, "box;");
            boolean blank = sign == ' ' || sign == '\n';
            fill(x, sign);
            CHECKS.is("page of " + (int) sign, x.page(), -1);
            CHECKS.fault("page of " + (int) sign, x, 1, blank ? 500 : 0);
            fill(x, sign);
            CHECKS.is("program of " + (int) sign, x.program(0), blank ? 0 : -1);
            CHECKS.fault("program of " + (int) sign, x, blank ? 0 : 1, blank ? -1 : 0);
            fill(x, sign);
            CHECKS.is("house of " + (int) sign, x.house(), -1);
            CHECKS.fault("house of " + (int) sign, x, sign == 'b' || sign == '7' ? 2 : 1, sign == 'b' || sign == '7' ? 12 : 0);
            fill(x, sign);
            CHECKS.is("word of " + (int) sign, x.word(0), -1);
            CHECKS.fault("word of " + (int) sign, x, sign == 'b' ? 2 : 1, sign == 'b' ? 8 : 0);
            fill(x, sign);
            CHECKS.is("letter of " + (int) sign, x.letter(), sign == 'b' ? 1 : blank || sign == '.' ? 0 : -1);
        }
        PretendDesk x = new PretendDesk();
        fill(x, ' ');
        x.end(480);
        x.feed(0x626F7820, 0x20202020, 0x20202020, 0x20202020, 0x2020203B);
        CHECKS.is("its last byte counts", x.page(), 0);
    }

    private static void fill(PretendDesk x, char sign) {
        x.end(0);
        int four = sign << 24 | sign << 16 | sign << 8 | sign;
        for (int k = 0; k < 25; k++) {
            x.feed(four, four, four, four, four);
        }
    }

    private static void fault() {
        PretendDesk x = new PretendDesk();
        Checks.page(x, "box 10;");
        CHECKS.fault("page", x, 2, 4);
        CHECKS.is("fault(2)", x.fault(2), -1);
        CHECKS.is("fault(-1)", x.fault(-1), -1);
        x.feed(0, 0, 0, 0, 0);
        x.end(0);
        CHECKS.is("pattern", x.pattern(0, 0), -1);
        CHECKS.fault("it stays", x, 2, 4);
        Checks.letter(x, "a b!");
        CHECKS.fault("letter", x, 1, 3);
        Checks.word(x, "a1", 0);
        CHECKS.fault("word", x, 1, 1);
        Checks.house(x, "abcdefghijklm");
        CHECKS.fault("house", x, 2, 12);
        Checks.page(x, "box;");
        CHECKS.fault("none", x, 0, -1);
        Checks.program(x, 0, "stop");
        CHECKS.fault("program", x, 1, 4);
        Checks.name(x, 0, "");
        CHECKS.fault("name", x, 1, 0);
        Checks.house(x, "a");
        Checks.own(x, 0, "pass");
        CHECKS.fault("own", x, 1, 4);
        Checks.own(x, 1, "pass");
        CHECKS.fault("no text is read", x, 0, -1);
    }
}
