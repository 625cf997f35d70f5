/** Promises 6, 7, 13, 14: own, page, boxes, box, and the FAULTS of a PAGE. */
public final class PageTest {
    private static final Checks CHECKS = new Checks("PageTest");

    public static void main(String[] args) {
        page();
        own();
        texts();
        faults();
        boxes();
        box();
        CHECKS.end();
    }

    private static void page() {
        PretendDesk x = new PretendDesk();
        for (int k = 0; k < 10; k++) {
            CHECKS.is("page()", Checks.page(x, "box;"), k);
            CHECKS.is("the tape is empty", x.end(1), -1);
        }
        CHECKS.is("there are 10", Checks.page(x, "?"), -2);
        CHECKS.fault("no text is read", x, 0, -1);
        CHECKS.is("the tape is empty", x.end(1), -1);
        CHECKS.is("count(1)", x.count(1), 10);
        x = new PretendDesk();
        CHECKS.is("a FAULT", Checks.page(x, "box(pass;?)"), -1);
        CHECKS.is("the tape is empty", x.end(1), -1);
        CHECKS.is("none came", x.count(1), 0);
        CHECKS.is("the next one", Checks.page(x, "pin;"), 0);
        CHECKS.is("nothing is left of the one before", x.boxes(0, 0, 0), 1);
    }

    private static void own() {
        PretendDesk x = new PretendDesk();
        CHECKS.is("no such house", Checks.own(x, 0, "?"), -2);
        CHECKS.fault("no text is read", x, 0, -1);
        CHECKS.is("the tape is empty", x.end(1), -1);
        Checks.house(x, "a");
        CHECKS.is("a FAULT", Checks.own(x, 0, "box"), -1);
        CHECKS.fault("a FAULT", x, 1, 3);
        CHECKS.is("count(20)", x.count(20), 0);
        CHECKS.is("the first", Checks.own(x, 0, "box;"), 1);
        CHECKS.is("the tape is empty", x.end(1), -1);
        CHECKS.is("another FAULT", Checks.own(x, 0, "box 10;"), -1);
        CHECKS.is("the second", Checks.own(x, 0, "pin;"), 2);
        CHECKS.is("the third", Checks.own(x, 0, "?"), -2);
        CHECKS.fault("no text is read", x, 0, -1);
        CHECKS.is("house -1", Checks.own(x, -1, "box;"), -2);
        CHECKS.is("house 1", Checks.own(x, 1, "box;"), -2);
        CHECKS.is("count(20)", x.count(20), 2);
    }

    private static void good(String text, int boxes) {
        PretendDesk x = new PretendDesk();
        CHECKS.is(text, Checks.page(x, text), 0);
        CHECKS.fault(text, x, 0, -1);
        CHECKS.is(text + " boxes", x.boxes(0, 3, 99), boxes);
    }

    private static void texts() {
        good("box;", 1);
        good(" \n box\n9 \n;\n", 1);
        good("box()", 1);
        good("box9land3day99;", 1);
        good("box 0009 land 0003 day 0099 ( )", 1);
        good("box(form;pass;card;pin;logo;text;link;)", 8);
        good("box(box(box(box(box(box;)))))", 6);
        good("box(box(box(box(box(box())))))", 6);
        good("box(pin;pin;pin;pin;pin;pin;pin;pin;pin;pin;pin;pin;pin;)", 14);
        good("link(box(pin;)box(pin;))", 5);
    }

    private static void bad(String text, int fault, int place) {
        PretendDesk x = new PretendDesk();
        CHECKS.is(text, Checks.page(x, text), -1);
        CHECKS.fault(text, x, fault, place);
        Checks.house(x, "a");
        CHECKS.is("own " + text, Checks.own(x, 0, text), -1);
        CHECKS.fault("own " + text, x, fault, place);
    }

    private static void faults() {
        bad("", 1, 0);
        bad("  \n", 1, 3);
        bad("box", 1, 3);
        bad("box ", 1, 4);
        bad("box(", 1, 4);
        bad("box(pin; ", 1, 9);
        bad("boxx;", 1, 0);
        bad("Box;", 1, 0);
        bad("(box;)", 1, 0);
        bad("box;;", 1, 4);
        bad("box; )", 1, 5);
        bad("box() box;", 1, 6);
        bad("box 12345;", 1, 4);
        bad("box 00001;", 1, 4);
        bad("box land ;", 1, 9);
        bad("box land 12345;", 1, 9);
        bad("box day(;", 1, 7);
        bad("box day 1 2;", 1, 10);
        bad("box 1 2;", 1, 6);
        bad("box day 1 land 1;", 1, 10);
        bad("box land 1 land 1;", 1, 11);
        bad("box land 1 3;", 1, 11);
        bad("box <;", 1, 4);
        bad("box\t;", 1, 3);
        bad("box\r;", 1, 3);
        bad("box\0;", 1, 3);
        bad("box(to;)", 1, 4);
        bad("box(land;)", 1, 4);
        bad("box(pin;pin)", 1, 11);
        bad("box -1;", 1, 4);
        bad("box 10;", 2, 4);
        bad("box 9999;", 2, 4);
        bad("box land 4;", 2, 9);
        bad("box day 100;", 2, 8);
        bad("box(pin 10 land 4;pin day 100;)", 2, 8);
        bad("box 10(pin?)", 1, 10);
        bad("box 10;;", 1, 7);
        bad("box(pin;pin;pin;pin;pin;pin;pin;pin;pin;pin;pin;pin;pin;pin;)", 3, 56);
        bad("box(pin;pin;pin;pin;pin;pin;pin;pin;pin;pin;pin;pin;pin;pin 10;pin;)", 3, 56);
        bad("box(pin;pin;pin;pin;pin;pin;pin;pin;pin;pin;pin;pin;pin 10;pin;)", 2, 56);
        bad("box(pin;pin;pin;pin;pin;pin;pin;pin;pin;pin;pin;pin;pin;pin;", 1, 60);
        bad("box(box(box(box(box(box(pin;))))))", 4, 24);
        bad("box(box(box(box(box(box(pin(pin 10;)))))))", 4, 24);
        bad("box(box(box(box(box(box 10(pin;))))))", 2, 24);
        bad("box(box(box(box(box(box(pin;)))))", 1, 33);
        // The 15th one, and within six others: of one place the least.
        bad("box(pin;pin;pin;pin;pin;pin;pin;pin;box(box(box(box(box(pin;))))))", 3, 56);
        bad("box(pin;pin;pin;pin;pin;pin;pin;box(box(box(box(box(pin;)))))pin;)", 4, 52);
        StringBuilder deep = new StringBuilder();
        for (int k = 0; k < 110; k++) {
            deep.append("box(");
        }
        bad(deep.toString(), 1, 440);
    }

    private static void boxes() {
        PretendDesk x = new PretendDesk();
        CHECKS.is("no page", x.boxes(0, 0, 0), -1);
        Checks.page(x, "box(form land 1(pass;pin day 5;)link land 0 day 9;card;)");
        CHECKS.is("boxes(0, 0, 0)", x.boxes(0, 0, 0), 2);
        CHECKS.is("boxes(0, 1, 0)", x.boxes(0, 1, 0), 4);
        CHECKS.is("boxes(0, 1, 4)", x.boxes(0, 1, 4), 4);
        CHECKS.is("boxes(0, 1, 5)", x.boxes(0, 1, 5), 5);
        CHECKS.is("boxes(0, 0, 8)", x.boxes(0, 0, 8), 2);
        CHECKS.is("boxes(0, 0, 9)", x.boxes(0, 0, 9), 3);
        CHECKS.is("boxes(0, 3, 99)", x.boxes(0, 3, 99), 2);
        CHECKS.is("boxes(1, 0, 0)", x.boxes(1, 0, 0), -1);
        CHECKS.is("boxes(-1, 0, 0)", x.boxes(-1, 0, 0), -1);
        CHECKS.is("boxes(0, 4, 0)", x.boxes(0, 4, 0), -1);
        CHECKS.is("boxes(0, -1, 0)", x.boxes(0, -1, 0), -1);
        CHECKS.is("boxes(0, 0, 100)", x.boxes(0, 0, 100), -1);
        CHECKS.is("boxes(0, 0, -1)", x.boxes(0, 0, -1), -1);
        Checks.page(x, "box land 2(pin;pin;)");
        CHECKS.is("an empty page", x.boxes(1, 0, 0), 0);
        CHECKS.is("a full one", x.boxes(1, 2, 0), 3);
    }

    private static void box() {
        PretendDesk x = new PretendDesk();
        CHECKS.is("no page", x.box(0, 0, 0), -2);
        Checks.page(x, "link 3(form land 0(pass day 7;)text 1 land 3 day 99;)");
        int[][] due = {{7, 3, -1, -1, 0}, {1, 0, 0, 0, 0}, {2, 0, 1, -1, 7}, {6, 1, 0, 3, 99}};
        for (int k = 0; k < due.length; k++) {
            for (int what = 0; what < 5; what++) {
                CHECKS.is("box(0, " + k + ", " + what + ")", x.box(0, k, what), due[k][what]);
            }
        }
        CHECKS.is("box 4", x.box(0, 4, 0), -2);
        CHECKS.is("box -1", x.box(0, -1, 0), -2);
        CHECKS.is("what 5", x.box(0, 0, 5), -2);
        CHECKS.is("what -1", x.box(0, 0, -1), -2);
        CHECKS.is("page 1", x.box(1, 0, 0), -2);
        CHECKS.is("page -1", x.box(-1, 0, 0), -2);
        Checks.page(x, "box(form(pass;)card(pin;)logo;)");
        int[] kinds = {0, 1, 2, 3, 4, 5};
        int[] within = {-1, 0, 1, 0, 3, 0};
        for (int k = 0; k < kinds.length; k++) {
            CHECKS.is("kind " + k, x.box(1, k, 0), kinds[k]);
            CHECKS.is("within " + k, x.box(1, k, 2), within[k]);
        }
    }
}
