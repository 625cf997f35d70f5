/** Promises 36 to 42: program, relay, owner, goes, sent, steps, taken. */
public final class ProgramTest {
    private static final Checks CHECKS = new Checks("ProgramTest");

    public static void main(String[] args) {
        program();
        faults();
        runs();
        steps();
        wrongAsked();
        relay();
        owner();
        taken();
        ever();
        CHECKS.end();
    }

    private static PretendDesk page() {
        PretendDesk x = new PretendDesk();
        Checks.page(x, "form(pass;card;)");
        return x;
    }

    private static void program() {
        PretendDesk x = new PretendDesk();
        CHECKS.is("no page", Checks.program(x, 0, "?"), -2);
        CHECKS.fault("no text is read", x, 0, -1);
        CHECKS.is("the tape is empty", x.end(1), -1);
        x = page();
        CHECKS.is("page -1", Checks.program(x, -1, "stop;"), -2);
        CHECKS.is("page 1", Checks.program(x, 1, "stop;"), -2);
        CHECKS.is("none at first", x.steps(0, 0), 0);
        CHECKS.is("three lines", Checks.program(x, 0, "put 1 to 0;\n put 99 to 5 ; stop;"), 3);
        CHECKS.fault("three lines", x, 0, -1);
        CHECKS.is("the tape is empty", x.end(1), -1);
        CHECKS.is("steps", x.steps(0, 0), 3);
        CHECKS.is("a FAULT", Checks.program(x, 0, "stop;stop"), -1);
        CHECKS.is("the PROGRAM stays", x.steps(0, 0), 3);
        CHECKS.is("another FAULT", Checks.program(x, 0, "stop;go 21;"), -1);
        CHECKS.is("the PROGRAM stays", x.steps(0, 0), 3);
        CHECKS.is("another program", Checks.program(x, 0, "go 1;go 20;"), 2);
        CHECKS.is("steps", x.steps(0, 0), 2);
        CHECKS.is("no line", Checks.program(x, 0, " \n"), 0);
        CHECKS.is("steps", x.steps(0, 0), 0);
        StringBuilder most = new StringBuilder();
        for (int k = 0; k < 20; k++) {
            most.append("put 0 to 0;");
        }
        CHECKS.is("20 lines", Checks.program(x, 0, most.toString()), 20);
        CHECKS.is("steps", x.steps(0, 0), 20);
        CHECKS.is("21 lines", Checks.program(x, 0, most + " stop;"), -1);
        CHECKS.fault("21 lines", x, 3, 221);
        CHECKS.is("21 lines, the last one with a FAULT", Checks.program(x, 0, most + "go 21;"), -1);
        CHECKS.fault("the first by place", x, 3, 220);
        CHECKS.is("21 lines, an earlier FAULT", Checks.program(x, 0, "go 21;" + most), -1);
        CHECKS.fault("the first by place", x, 2, 3);
        CHECKS.is("21 lines, a FAULT 1", Checks.program(x, 0, most + "go 2"), -1);
        CHECKS.fault("1 goes before", x, 1, 224);
        CHECKS.is("a word for a 21st line", Checks.program(x, 0, most + "pin"), -1);
        CHECKS.fault("1 goes before", x, 1, 220);
    }

    private static void bad(String text, int fault, int place) {
        PretendDesk x = page();
        CHECKS.is(text, Checks.program(x, 0, text), -1);
        CHECKS.fault(text, x, fault, place);
    }

    private static void good(String text) {
        PretendDesk x = page();
        CHECKS.is(text, Checks.program(x, 0, text), 1);
        CHECKS.fault(text, x, 0, -1);
    }

    private static void faults() {
        for (String kind : Model.KINDS) {
            good("read " + kind + " to 5;");
        }
        good("mix 5 to 5;");
        good("put 99 to 5;");
        good("put0099to0005;");
        good("send 5 to 9;");
        good("if 5<99 go 20;");
        good("if 5\n<\n99 go 0 ;");
        good("go 20;");
        good("stop ;");
        bad("stop", 1, 4);
        bad("stop 1;", 1, 5);
        bad("stop;;", 1, 5);
        bad("halt;", 1, 0);
        bad("box;", 1, 0);
        bad("to;", 1, 0);
        bad(";", 1, 0);
        bad("1;", 1, 0);
        bad("(", 1, 0);
        bad("<", 1, 0);
        bad("read 1 to 1;", 1, 5);
        bad("read to to 1;", 1, 5);
        bad("read land to 1;", 1, 5);
        bad("read pin 1;", 1, 9);
        bad("read pin to pin;", 1, 12);
        bad("read pin to 6;", 2, 12);
        bad("mix to 1;", 1, 4);
        bad("mix 1 2;", 1, 6);
        bad("mix 1 go 2;", 1, 6);
        bad("mix 6 to 1;", 2, 4);
        bad("mix 1 to 6;", 2, 9);
        bad("put 100 to 1;", 2, 4);
        bad("put 1 to 6;", 2, 9);
        bad("put 12345 to 1;", 1, 4);
        bad("put pin to 1;", 1, 4);
        bad("send 6 to 1;", 2, 5);
        bad("send 1 to 10;", 2, 10);
        bad("if 1 < 2;", 1, 8);
        bad("if 1 > 2 go 1;", 1, 5);
        bad("if 1 2 go 1;", 1, 5);
        bad("if 1 < 2 to 1;", 1, 9);
        bad("if 6 < 1 go 1;", 2, 3);
        bad("if 1 < 100 go 1;", 2, 7);
        bad("if 1 < 2 go 21;", 2, 12);
        bad("go 21;", 2, 3);
        bad("go go 1;", 1, 3);
        bad("go 1", 1, 4);
        bad("go 21;put 100 to 9;", 2, 3);
        bad("go 21;stop;stopp;", 1, 11);
        bad("stop;.", 1, 5);
    }

    private static void runs() {
        PretendDesk x = page();
        Checks.program(x, 0, "read pass to 0;read card to 1;mix 0 to 1;send 1 to 2;send 0 to 3;"
                + "read link to 0;send 0 to 3;put 5 to 1;send 1 to 4;send 5 to 5;mix 0 to 1;send 1 to 9;");
        int[] due = {0, 0, 4 + 8, 4 + 128, 0, 0, 0, 0, 0, 128};
        for (int address = 0; address < 10; address++) {
            CHECKS.is("sent to " + address, x.sent(0, 77, address), due[address]);
        }
        // ANSWER of pass with 31: 31 * 3 + 7 is 100, so 0; with 30 it is 97, with 64 it is 99.
        Checks.program(x, 0, "read pass to 0;if 0<1 go 4;send 0 to 1;stop;send 0 to 2;");
        CHECKS.is("31", x.sent(0, 31, 2), 4);
        CHECKS.is("31", x.sent(0, 31, 1), 0);
        CHECKS.is("131", x.sent(0, 131, 2), 4);
        CHECKS.is("30", x.sent(0, 30, 1), 4);
        CHECKS.is("30", x.sent(0, 30, 2), 0);
        Checks.program(x, 0, "read link to 3;if 3<99 go 3;send 3 to 1;");
        CHECKS.is("999 * 8 + 7 is 7999", x.sent(0, 999, 1), 128);
        CHECKS.is("998 * 8 + 7 is 7991", x.sent(0, 998, 1), 0);
        CHECKS.is("91", x.steps(0, 998), 2);
        // mix: the remainder by 100 of both together.
        Checks.program(x, 0, "put 60 to 0;put 41 to 1;mix 0 to 1;if 1<1 go 5;if 1<2 go 6;stop;stop;stop;");
        CHECKS.is("101 is 1", x.steps(0, 0), 6);
        Checks.program(x, 0, "put 50 to 0;mix 0 to 0;if 0<1 go 5;");
        CHECKS.is("with itself", x.steps(0, 0), 3);
        Checks.program(x, 0, "put 49 to 0;mix 0 to 0;if 0<98 go 0;if 0<99 go 5;stop;");
        CHECKS.is("98 is not below 98", x.steps(0, 0), 4);
        Checks.program(x, 0, "if 4<1 go 2;stop;mix 4 to 4;send 4 to 0;");
        CHECKS.is("0 at first", x.steps(0, 0), 3);
        CHECKS.is("no TRACES at first", x.sent(0, 0, 0), 0);
        Checks.program(x, 0, "if 0<1 go 2;stop;if 5<1 go 4;stop;send 0 to 0;send 5 to 5;read pin to 0;read card to 5;"
                + "send 0 to 9;send 5 to 9;");
        for (int time = 0; time < 2; time++) {
            CHECKS.is("all is new each time", x.steps(0, 3), 8);
            CHECKS.is("all is new each time", x.sent(0, 3, 0) + x.sent(0, 3, 5), 0);
            CHECKS.is("all is new each time", x.sent(0, 3, 9), 24);
        }
    }

    private static void steps() {
        PretendDesk x = page();
        Checks.program(x, 0, "stop;stop;");
        CHECKS.is("stop is done", x.steps(0, 0), 1);
        Checks.program(x, 0, "go 0;");
        CHECKS.is("200", x.steps(0, 0), 200);
        Checks.program(x, 0, "go 20;stop;");
        CHECKS.is("a line that there is not", x.steps(0, 0), 1);
        Checks.program(x, 0, "go 2;stop;");
        CHECKS.is("the line behind the last one", x.steps(0, 0), 1);
        Checks.program(x, 0, "go 1;put 1 to 1;");
        CHECKS.is("behind the last one", x.steps(0, 0), 2);
        // Each round has three lines; in the 67th its 199th and 200th are done.
        Checks.program(x, 0, "read pin to 1;send 1 to 0;go 3;if 2<0 go 0;put 1 to 3;mix 3 to 4;if 4<49 go 3;"
                + "send 1 to 6;");
        CHECKS.is("3 + 49 * 4 + 1", x.steps(0, 0), 200);
        CHECKS.is("the 200th is done", x.sent(0, 0, 6), 16);
        Checks.program(x, 0, "read pin to 1;send 1 to 0;put 0 to 2;go 4;if 2<0 go 0;put 1 to 3;mix 3 to 4;"
                + "if 4<49 go 4;send 1 to 6;");
        CHECKS.is("the 201st is not", x.steps(0, 0), 200);
        CHECKS.is("the 201st is not", x.sent(0, 0, 6), 0);
    }

    private static void wrongAsked() {
        PretendDesk x = page();
        CHECKS.is("x 1000", x.steps(0, 1000), -1);
        CHECKS.is("x -1", x.steps(0, -1), -1);
        CHECKS.is("page 1", x.steps(1, 0), -1);
        CHECKS.is("page -1", x.steps(-1, 0), -1);
        CHECKS.is("x 1000", x.sent(0, 1000, 0), -1);
        CHECKS.is("x -1", x.sent(0, -1, 0), -1);
        CHECKS.is("page 1", x.sent(1, 0, 0), -1);
        CHECKS.is("page -1", x.sent(-1, 0, 0), -1);
        CHECKS.is("address 10", x.sent(0, 0, 10), -1);
        CHECKS.is("address -1", x.sent(0, 0, -1), -1);
        CHECKS.is("no program", x.sent(0, 0, 9), 0);
        CHECKS.is("x 1000", x.taken(0, 1000), -1);
        CHECKS.is("x -2", x.taken(0, -2), -1);
        CHECKS.is("page 1", x.taken(1, 0), -1);
        CHECKS.is("page -1", x.taken(-1, -1), -1);
        CHECKS.is("no program", x.taken(0, -1), 0);
        CHECKS.is("x 999", x.taken(0, 999), 0);
    }

    private static void relay() {
        PretendDesk x = new PretendDesk();
        CHECKS.is("they are one", x.relay(3, 3), false);
        CHECKS.is("address 10", x.relay(10, 0), false);
        CHECKS.is("address -1", x.relay(-1, 0), false);
        CHECKS.is("address -1", x.relay(-1, -1), false);
        CHECKS.is("to 10", x.relay(0, 10), false);
        CHECKS.is("to -2", x.relay(0, -2), false);
        for (int a = 0; a < 9; a++) {
            CHECKS.is("relay", x.relay(a, a + 1), true);
        }
        CHECKS.is("the longest way", x.goes(0, false), 9);
        CHECKS.is("the longest way", x.goes(0, true), 9);
        CHECKS.is("one relay", x.goes(8, true), 1);
        CHECKS.is("none", x.goes(9, true), 0);
        CHECKS.is("itself", x.goes(9, false), 9);
        CHECKS.is("a ring of all", x.relay(9, 0), true);
        CHECKS.is("a ring", x.goes(5, false), -1);
        CHECKS.is("a ring", x.goes(5, true), -1);
        CHECKS.is("no more", x.relay(6, -1), true);
        CHECKS.is("to 6", x.goes(7, false), 6);
        CHECKS.is("to 6", x.goes(7, true), 9);
        CHECKS.is("no more, again", x.relay(6, -1), true);
        CHECKS.is("another one", x.relay(0, 6), true);
        CHECKS.is("to 6", x.goes(7, true), 4);
        x.relay(6, 5);
        CHECKS.is("it comes to a ring", x.relay(4, 5) && x.relay(5, 6), true);
        CHECKS.is("it comes to a ring", x.goes(4, false), -1);
        CHECKS.is("it comes to a ring", x.goes(4, true), -1);
        CHECKS.is("address 10", x.goes(10, false), -1);
        CHECKS.is("address -1", x.goes(-1, true), -1);
    }

    private static void owner() {
        PretendDesk x = page();
        CHECKS.is("no house", x.owner(0, 0), false);
        CHECKS.is("nobody's", x.owner(0, -1), true);
        Checks.house(x, "a");
        CHECKS.is("owner", x.owner(9, 0), true);
        CHECKS.is("house 1", x.owner(9, 1), false);
        CHECKS.is("house -2", x.owner(9, -2), false);
        CHECKS.is("address 10", x.owner(10, 0), false);
        CHECKS.is("address -1", x.owner(-1, 0), false);
        CHECKS.is("address -1", x.owner(-1, -1), false);
        Checks.program(x, 0, "read pin to 0;send 0 to 9;");
        CHECKS.is("it is its own", x.taken(0, 0), 0);
        CHECKS.is("nobody's again", x.owner(9, -1), true);
        CHECKS.is("taken", x.taken(0, 0), 16);
    }

    private static void taken() {
        PretendDesk x = page();
        Checks.program(x, 0, "read pass to 0;read card to 1;read pin to 2;send 0 to 0;send 1 to 1;send 2 to 2;");
        CHECKS.is("no houses: all", x.taken(0, 0), 28);
        x.relay(2, 3);
        x.relay(3, 2);
        CHECKS.is("no houses: a ring, too", x.taken(0, 0), 28);
        Checks.house(x, "bank");
        Checks.house(x, "shop");
        CHECKS.is("nobody's", x.taken(0, 0), 28);
        x.owner(0, 0);
        x.owner(1, 1);
        x.owner(2, 0);
        x.owner(3, 0);
        CHECKS.is("LIKE is 0; a ring is nobody's", x.taken(0, 0), 24);
        Checks.own(x, 1, "form(pass;card day 1;)");
        CHECKS.is("LIKE is 1", x.taken(0, 0), 20);
        x.relay(3, 1);
        CHECKS.is("no ring", x.taken(0, 0), 4);
        x.relay(1, 4);
        CHECKS.is("its END is nobody's", x.taken(0, 0), 28);
        x.owner(4, 1);
        CHECKS.is("its END is its own", x.taken(0, 0), 4);
        x.relay(0, 3);
        CHECKS.is("its END is its own", x.taken(0, 0), 0);
        x.relay(1, 0);
        CHECKS.is("all come to a ring", x.taken(0, 0), 28);
        // LIKE by LAND 0 on DAY 0.
        Checks.page(x, "form(pass;card day 1;)");
        Checks.own(x, 0, "form(pass land 0;card day 1;)");
        Checks.own(x, 0, "form(pass;card;)");
        Checks.program(x, 1, "read pass to 0;send 0 to 5;read card to 1;send 1 to 6;");
        x.owner(5, 0);
        x.owner(6, 1);
        CHECKS.is("of several the least", x.taken(1, 0), 8);
        x = new PretendDesk();
        Checks.house(x, "a");
        Checks.house(x, "b");
        Checks.own(x, 0, "form(pass;card;pin;)");
        Checks.own(x, 1, "form(pass;)");
        Checks.page(x, "form(pass;card day 1;pin day 1;)");
        Checks.page(x, "form(pass;card land 1;pin land 1;)");
        x.owner(0, 0);
        x.owner(1, 1);
        for (int page = 0; page < 2; page++) {
            Checks.program(x, page, "read pass to 0;send 0 to 0;read card to 1;send 1 to 1;");
            CHECKS.is("by LAND 0 on DAY 0 it is like house 1", x.taken(page, 0), 4);
        }
    }

    private static void ever() {
        PretendDesk x = page();
        Checks.program(x, 0, "read box to 0;read pin to 1;if 0<1 go 4;stop;send 1 to 1;");
        CHECKS.is("with 92", x.taken(0, 92), 0);
        CHECKS.is("with 93", x.taken(0, 93), 16);
        CHECKS.is("with 993", x.taken(0, 993), 16);
        CHECKS.is("ever", x.taken(0, -1), 16);
        Checks.program(x, 0, "read box to 0;read pin to 1;if 0<99 go 4;send 1 to 1;");
        CHECKS.is("with 92", x.taken(0, 92), 16);
        CHECKS.is("with 91", x.taken(0, 91), 0);
        CHECKS.is("ever", x.taken(0, -1), 16);
        Checks.program(x, 0, "read box to 0;read pin to 1;if 0<50 go 5;send 0 to 1;stop;send 1 to 1;");
        CHECKS.is("ever, together", x.taken(0, -1), 17);
        // ANSWER of box is 7 with 0, 100 and so on alone; 6 with 99, 199 and so on alone.
        Checks.program(x, 0, "read box to 0;if 0<7 go 3;if 0<8 go 4;stop;send 0 to 0;");
        CHECKS.is("with 0", x.taken(0, 0), 1);
        CHECKS.is("with 1", x.taken(0, 1), 0);
        CHECKS.is("ever", x.taken(0, -1), 1);
        Checks.program(x, 0, "read box to 0;if 0<6 go 3;if 0<7 go 4;stop;send 0 to 0;");
        CHECKS.is("with 99", x.taken(0, 99), 1);
        CHECKS.is("ever", x.taken(0, -1), 1);
    }
}
