/** The edges of promises 36 to 42: program, relay, owner, goes, sent, steps, taken; of PROGRAMS. */
public final class ProgramEdgeTest {
    private static final String[] KINDS = {"box", "form", "pass", "card", "pin", "logo", "text", "link"};
    private static final Edges.Maker PAGE = Desks.came("form(pass;)");

    public static void main(String[] args) {
        Edges.run("ProgramEdgeTest", ProgramEdgeTest::sentences);
    }

    static void sentences(Edges e) {
        e.of("Term 5", "PROGRAM of a PAGE that came (none at first), a text of LINES, at most 20, from 0 on: {LINE}.",
                ProgramEdgeTest::atMost20Lines);
        e.of("Term 5", "LINE: ('read' KIND 'to' NUMBER | ('mix' | 'put' | 'send') NUMBER 'to' NUMBER | 'if' NUMBER '<' NUMBER "
                + "'go' NUMBER | 'go' NUMBER | 'stop') ';' (KIND: its word; < is a sign of one byte).", ProgramEdgeTest::lines);
        e.of("Term 5", "REGISTERS 0 .. 5, each with a number (0 at first) and TRACES (KINDS; none at first).",
                ProgramEdgeTest::registers);
        e.of("Term 5", "read k to r: r has the ANSWER of k, its TRACES are k alone.", ProgramEdgeTest::read);
        e.of("Term 5", "mix r to s: s has both together, remainder by 100, TRACES of both.", ProgramEdgeTest::mix);
        e.of("Term 5", "put n to r: n, no TRACES.", ProgramEdgeTest::put);
        e.of("Term 5", "send r to a: ADDRESS a, 0 .. 9, gets TRACES of r.", ProgramEdgeTest::send);
        e.of("Term 5", "if r < n go l: if it is so, LINE l is next.", ProgramEdgeTest::ifBelow);
        e.of("Term 5", "go l: LINE l is next.", ProgramEdgeTest::go);
        e.of("Term 5", "stop: it ends; so it does behind the last LINE, at a LINE that there is not,", ProgramEdgeTest::ends);
        e.of("Term 5", "and behind 200 LINES done.", ProgramEdgeTest::behind200);
        faults(e);
        comes(e);
        promises(e);
    }

    private static void faults(Edges e) {
        e.of("Term 5", "FAULTS of a PROGRAM: 1 as of a PAGE;", ProgramEdgeTest::stuck);
        e.of("Term 5", "if there is none, the first by place, of one place the least:", ProgramEdgeTest::firstByPlace);
        e.of("Term 5", "2 a NUMBER that can't be (REGISTERS 0 .. 5, ADDRESSES 0 .. 9, put and < 0 .. 99, LINES 0 .. 20),",
                ProgramEdgeTest::numberThatCantBe);
        e.of("Term 5", "3 a 21st LINE, at its first token.", ProgramEdgeTest::line21);
    }

    private static void comes(Edges e) {
        e.of("Term 5", "ANSWERS made of x, 0 .. 999: of KIND k: x * (k + 1) + 7, remainder by 100.", ProgramEdgeTest::answers);
        e.of("Term 5", "RELAYS: an ADDRESS hands on to another one (told; none at first);", ProgramEdgeTest::relaysAtFirst);
        e.of("Term 5", "what comes to it comes in the END to that which hands on no more (a ring: to none).", ProgramEdgeTest::ends2);
        e.of("Term 5", "OWNERS: an ADDRESS is a HOUSE's (told; nobody's at first).", ProgramEdgeTest::ownersAtFirst);
        e.of("Term 5", "TAKEN with x: KINDS whose TRACES come to some ADDRESS whose END is not owned by the HOUSE that the PAGE "
                + "is LIKE (LAND 0, DAY 0;", ProgramEdgeTest::endNotOwned);
        e.of("Term 5", "if there are no HOUSES, all that come anywhere),", ProgramEdgeTest::withoutHouses);
        e.of("Term 5", "or that is in a ring.", ProgramEdgeTest::inARing);
        e.of("Term 5", "EVER: TAKEN with some x.", ProgramEdgeTest::ever);
    }

    private static void promises(Edges e) {
        e.of("Promise 36", "The tape is taken (and is empty then), as PROGRAM of a PAGE: how many LINES.", ProgramEdgeTest::program);
        e.of("Promise 36", "NONE: a FAULT (the PROGRAM stays).", ProgramEdgeTest::programFault);
        e.of("Promise 36", "-2: there is none such PAGE (the tape is empty then, too; no text is read, FAULT 0).",
                ProgramEdgeTest::programOfNone);
        e.of("Promise 37", "An ADDRESS hands on to another one (NONE: no more): true;", ProgramEdgeTest::relay);
        e.of("Promise 37", "false: there is none such, or they are one.", ProgramEdgeTest::relayOfNone);
        e.of("Promise 38", "An ADDRESS is a HOUSE's (NONE: nobody's): true;", ProgramEdgeTest::owner);
        e.of("Promise 38", "false: there is none such (of either).", ProgramEdgeTest::ownerOfNone);
        e.of("Promise 39", "END of an ADDRESS, or (hands) over how many RELAYS.", ProgramEdgeTest::goes);
        e.of("Promise 39", "NONE: a ring, or there is none such.", ProgramEdgeTest::goesOfNone);
        e.of("Promise 40", "KINDS (bits) whose TRACES come to an ADDRESS itself, by a PAGE's PROGRAM with x.", ProgramEdgeTest::sent);
        e.of("Promise 40", "NONE: there is none such (of any).", ProgramEdgeTest::sentOfNone);
        e.of("Promise 41", "How many LINES a PAGE's PROGRAM does with x.", ProgramEdgeTest::steps);
        e.of("Promise 41", "NONE: there is none such (of either).", ProgramEdgeTest::stepsOfNone);
        e.of("Promise 42", "TAKEN (bits) with x, or (x NONE) EVER.", ProgramEdgeTest::taken);
        e.of("Promise 42", "NONE: there is none such (of either).", ProgramEdgeTest::takenOfNone);
    }

    private static void good(Edges e, String text, int lines) {
        PretendDesk x = PAGE.make();
        e.is("program of '" + text + "'", Checks.program(x, 0, text), lines);
        e.fault("program of '" + text + "'", x, 0, -1);
    }

    private static void bad(Edges e, String text, int fault, int place) {
        PretendDesk x = PAGE.make();
        e.is("program of '" + text + "'", Checks.program(x, 0, text), -1);
        e.fault("program of '" + text + "'", x, fault, place);
        e.empty("program of '" + text + "'", x);
        e.is("steps", x.steps(0, 0), 0);
    }

    private static PretendDesk run(String program) {
        PretendDesk x = PAGE.make();
        Checks.program(x, 0, program);
        return x;
    }

    /** What a REGISTER has behind some lines, by asking whether it is below each number that can be told. */
    private static int value(String lines, int count, int register, int x) {
        int value = 0;
        while (value < 99 && run(lines + "if " + register + "<" + (value + 1) + " go 20;stop;").steps(0, x) != count + 1) {
            value++;
        }
        return value;
    }

    // ---- LINES

    private static void atMost20Lines(Edges e) {
        PretendDesk x = PAGE.make();
        e.is("none at first, steps", x.steps(0, 0), 0);
        e.is("none at first, sent", x.sent(0, 0, 0), 0);
        e.is("none at first, taken", x.taken(0, -1), 0);
        for (int lines = 0; lines <= 20; lines++) {
            good(e, "put 1 to 1;".repeat(lines), lines);
            e.is("steps of " + lines, run("put 1 to 1;".repeat(lines)).steps(0, 0), lines);
        }
        bad(e, "put 1 to 1;".repeat(21), 3, 220);
        e.is("the LINES are from 0 on", run("go 2;stop;put 0 to 0;put 0 to 0;").steps(0, 0), 3);
        PretendDesk all = run("go 19;read pin to 5;go 3;stop;" + "stop;".repeat(15) + "go 1;");
        e.is("the last of 20 is 19", all.steps(0, 0), 5);
        e.is("and is done", run("read pin to 5;" + "put 0 to 0;".repeat(18) + "send 5 to 9;").sent(0, 0, 9), 16);
    }

    private static void lines(Edges e) {
        for (String kind : KINDS) {
            good(e, "read " + kind + " to 0;", 1);
        }
        String[] lines = {"read box to 5;", "mix 5 to 5;", "put 99 to 5;", "send 5 to 9;", "if 5<99 go 20;", "if 5 < 99 go 20 ;",
            "go 20;", "stop;", "stop\n;", "read box to5;", "mix5to5;", "put\n0\nto\n0\n;", "if5<99go20;"};
        for (String line : lines) {
            good(e, line, 1);
            good(e, line + line, 2);
            bad(e, line.substring(0, line.length() - 1), 1, line.length() - 1);
            bad(e, line + ";", 1, line.length());
        }
        bad(e, "readbox to 5;", 1, 0);
        bad(e, "read boxto 5;", 1, 5);
        bad(e, "read land to 5;", 1, 5);
        bad(e, "read 4 to 5;", 1, 5);
        bad(e, "read box 5;", 1, 9);
        bad(e, "read to 5;", 1, 5);
        bad(e, "read to box;", 1, 5);
        bad(e, "mix 5 5;", 1, 6);
        bad(e, "put to 5;", 1, 4);
        bad(e, "send 5 to;", 1, 9);
        bad(e, "if 5 99 go 20;", 1, 5);
        bad(e, "if 5(99 go 20;", 1, 4);
        bad(e, "if 5=99 go 20;", 1, 4);
        bad(e, "if 5<<99 go 20;", 1, 5);
        bad(e, "if 5<99 20;", 1, 8);
        bad(e, "if 5<99 to 20;", 1, 8);
        bad(e, "go;", 1, 2);
        bad(e, "go to 1;", 1, 3);
        bad(e, "stop 1;", 1, 5);
        bad(e, "goto 1;", 1, 0);
        bad(e, "box;", 1, 0);
        bad(e, ";", 1, 0);
        bad(e, "stop;stop;)", 1, 10);
    }

    private static void registers(Edges e) {
        for (int register = 0; register <= 5; register++) {
            e.is("the number at first of " + register, value("", 0, register, 57), 0);
            e.is("TRACES at first of " + register, run("send " + register + " to 0;").sent(0, 57, 0), 0);
            String others = "";
            for (int other = 0; other <= 5; other++) {
                others += other == register ? "" : "read link to " + other + ";";
            }
            e.is("the number of another one stays", value(others, 5, register, 57), 0);
            e.is("TRACES of another one stay", run(others + "send " + register + " to 0;").sent(0, 57, 0), 0);
        }
        bad(e, "put 1 to 6;", 2, 9);
        bad(e, "send 6 to 1;", 2, 5);
        // At first is each time that it runs.
        StringBuilder all = new StringBuilder();
        StringBuilder asked = new StringBuilder();
        for (int register = 0; register <= 5; register++) {
            all.append("read pin to " + register + ";send " + register + " to " + register + ";");
            asked.append("send " + register + " to " + register + ";if " + register + "<1 go " + (2 * register + 2) + ";");
        }
        for (int address = 6; address <= 9; address++) {
            all.append("send 0 to " + address + ";");
        }
        PretendDesk x = run(all.toString());
        e.is("sent", x.sent(0, 1, 0), 16);
        Checks.program(x, 0, asked + "stop;");
        e.is("all numbers are 0 again", x.steps(0, 1), 13);
        for (int address = 0; address <= 9; address++) {
            e.is("no TRACES again, at " + address, x.sent(0, 1, address), 0);
        }
        Checks.program(x, 0, "");
        for (int address = 0; address <= 9; address++) {
            e.is("without LINES, at " + address, x.sent(0, 1, address), 0);
        }
    }

    private static void read(Edges e) {
        for (int register = 0; register <= 5; register++) {
            for (int kind = 0; kind < 8; kind++) {
                String line = "read " + KINDS[kind] + " to " + register + ";";
                e.is("TRACES behind " + line, run(line + "send " + register + " to 9;").sent(0, 5, 9), 1 << kind);
                String twice = "read " + KINDS[7 - kind] + " to " + register + ";" + line;
                e.is("TRACES behind " + twice, run(twice + "send " + register + " to 9;").sent(0, 5, 9), 1 << kind);
                e.is("the number behind " + twice, value(twice, 2, register, 5), (5 * (kind + 1) + 7) % 100);
            }
        }
    }

    private static void mix(Edges e) {
        int[][] sums = {{0, 0, 0}, {0, 99, 99}, {99, 0, 99}, {99, 1, 0}, {1, 99, 0}, {50, 49, 99}, {50, 50, 0}, {99, 99, 98}, {51, 50, 1}};
        for (int[] s : sums) {
            String lines = "put " + s[0] + " to 0;put " + s[1] + " to 5;mix 0 to 5;";
            e.is(s[0] + " and " + s[1], value(lines, 3, 5, 0), s[2]);
            e.is(s[0] + " stays", value(lines, 3, 0, 0), s[0]);
        }
        e.is("a REGISTER and itself", value("put 49 to 3;mix 3 to 3;", 2, 3, 0), 98);
        e.is("a REGISTER and itself, 50", value("put 50 to 3;mix 3 to 3;", 2, 3, 0), 0);
        PretendDesk x = run("read box to 0;read link to 5;mix 0 to 5;send 5 to 0;send 0 to 1;mix 5 to 5;send 5 to 2;mix 4 to 5;"
                + "send 5 to 3;mix 5 to 4;send 4 to 4;");
        int[] due = {129, 1, 129, 129, 129};
        for (int address = 0; address < 5; address++) {
            e.is("TRACES at " + address, x.sent(0, 0, address), due[address]);
        }
    }

    private static void put(Edges e) {
        for (int n : new int[] {0, 1, 50, 98, 99}) {
            e.is("put " + n, value("read pin to 2;put " + n + " to 2;", 2, 2, 9), n);
        }
        e.is("no TRACES", run("read pin to 2;put 9 to 2;send 2 to 0;").sent(0, 0, 0), 0);
        e.is("TRACES before", run("read pin to 2;send 2 to 0;put 9 to 2;").sent(0, 0, 0), 16);
        bad(e, "put 100 to 2;", 2, 4);
    }

    private static void send(Edges e) {
        for (int address = 0; address <= 9; address++) {
            PretendDesk x = run("read box to 0;read link to 5;send 0 to " + address + ";send 5 to " + address + ";");
            for (int at = 0; at <= 9; at++) {
                e.is("sent to " + address + ", at " + at, x.sent(0, 0, at), at == address ? 129 : 0);
            }
        }
        e.is("TRACES stay in the REGISTER", run("read box to 0;send 0 to 1;send 0 to 2;").sent(0, 0, 2), 1);
        e.is("what came stays", run("read box to 0;send 0 to 1;put 0 to 0;send 0 to 1;").sent(0, 0, 1), 1);
        bad(e, "send 0 to 10;", 2, 10);
    }

    private static void ifBelow(Edges e) {
        for (int n : new int[] {0, 1, 49, 50, 51, 98, 99}) {
            for (int has : new int[] {0, 1, 49, 50, 51, 98, 99}) {
                PretendDesk x = run("put " + has + " to 5;if 5<" + n + " go 3;stop;put 0 to 0;put 0 to 0;");
                e.is("if " + has + " < " + n, x.steps(0, 0), has < n ? 4 : 3);
            }
        }
        e.is("it is LINE 0", run("if 0<1 go 0;").steps(0, 0), 200);
        e.is("it is LINE 20, which there is not", run("if 0<1 go 20;stop;").steps(0, 0), 1);
        e.is("it is the last LINE", run("if 0<1 go 19;" + "stop;".repeat(18) + "put 0 to 0;").steps(0, 0), 2);
        e.is("the next one else", run("if 0<0 go 0;stop;").steps(0, 0), 2);
    }

    private static void go(Edges e) {
        e.is("to itself", run("go 0;").steps(0, 0), 200);
        e.is("to the next one", run("go 1;stop;").steps(0, 0), 2);
        e.is("back", run("go 2;stop;go 1;").steps(0, 0), 3);
        e.is("over some", run("go 3;go 0;go 0;stop;").steps(0, 0), 2);
        e.is("to the last one", run("go 19;" + "stop;".repeat(18) + "put 0 to 0;").steps(0, 0), 2);
    }

    private static void ends(Edges e) {
        e.is("stop", run("stop;put 0 to 0;").steps(0, 0), 1);
        e.is("stop as the last one", run("put 0 to 0;stop;").steps(0, 0), 2);
        e.is("behind the last one", run("put 0 to 0;put 0 to 0;").steps(0, 0), 2);
        e.is("behind the last of 20", run("put 0 to 0;".repeat(20)).steps(0, 0), 20);
        e.is("behind an if that is not so", run("if 0<0 go 0;").steps(0, 0), 1);
        for (int line = 1; line <= 20; line++) {
            e.is("go " + line + " of one", run("go " + line + ";").steps(0, 0), 1);
            String all = "go " + line + ";" + "put 0 to 0;".repeat(19);
            e.is("go " + line + " of 20", run(all).steps(0, 0), 21 - line);
        }
        e.is("what was sent before it ends", run("read pin to 0;send 0 to 0;stop;send 0 to 1;").sent(0, 0, 0), 16);
        e.is("what would be sent behind it", run("read pin to 0;send 0 to 0;stop;send 0 to 1;").sent(0, 0, 1), 0);
    }

    private static void behind200(Edges e) {
        // 1 LINE, 98 times 2, then read, some put and send: send is the 199th LINE, the 200th, the 201st.
        for (int more = 0; more < 3; more++) {
            PretendDesk x = run("put 1 to 1;mix 1 to 0;if 0<98 go 1;read pin to 2;" + "put 0 to 5;".repeat(more) + "send 2 to 9;");
            e.is("steps, send is LINE " + (199 + more), x.steps(0, 0), Math.min(200, 199 + more));
            e.is("sent by LINE " + (199 + more), x.sent(0, 0, 9), more < 2 ? 16 : 0);
            e.is("taken by LINE " + (199 + more), x.taken(0, 0), more < 2 ? 16 : 0);
        }
        e.is("a row without an end", run("go 1;go 0;").steps(0, 0), 200);
    }

    // ---- FAULTS

    /** Every start of a good text, and every byte of it another one, as the plain Model has it. */
    private static void stuck(Edges e) {
        String[] texts = {"read pin to 5;mix 4 to 3;\nput 99 to 2;", "send 1 to 9;if 0 < 98 go 20;go 19;stop;", "stop;".repeat(20)};
        String signs = "\0\t\n\r !'()*+,-./012389:;<=>?@AZ[`abdfgiklmnoptuxz{\177\200\240\377";
        for (String text : texts) {
            Checks.others(text, signs, other -> asModel(e, other));
        }
        bad(e, "go 00001;", 1, 3);
        good(e, "go 0001;", 1);
        bad(e, "stop;   ?", 1, 8);
        bad(e, "stop;   stop", 1, 12);
        bad(e, "stop;   stop  ", 1, 14);
        bad(e, "go 21;go 21", 1, 11);
        bad(e, "stop;".repeat(40) + "?", 1, 200);
    }

    private static void asModel(Edges e, String text) {
        PretendDesk x = PAGE.make();
        Model due = new Model();
        Checks.tell(due, "box;");
        due.page();
        Checks.tell(x, text);
        Checks.tell(due, text);
        e.is("program of '" + text + "'", x.program(0), due.program(0));
        e.fault("program of '" + text + "'", x, due.fault(0), due.fault(1));
    }

    private static void firstByPlace(Edges e) {
        bad(e, "put 100 to 6;", 2, 4);
        bad(e, "put 99 to 6;", 2, 10);
        bad(e, "if 6<100 go 21;", 2, 3);
        bad(e, "if 5<100 go 21;", 2, 5);
        bad(e, "if 5<99 go 21;", 2, 11);
        bad(e, "stop;".repeat(19) + "go 21;stop;", 2, 98);
        bad(e, "stop;".repeat(20) + "go 21;", 3, 100);
        bad(e, "stop;".repeat(20) + "stop;stop;", 3, 100);
        bad(e, "go 21;" + "stop;".repeat(20), 2, 3);
    }

    private static void numberThatCantBe(Edges e) {
        String[] heads = {"read pin to ", "mix ", "mix 0 to ", "put ", "put 0 to ", "send ", "send 0 to ", "if ", "if 0<", "if 0<0 go ", "go "};
        String[] tails = {";", " to 0;", ";", " to 0;", ";", " to 0;", ";", "<0 go 0;", " go 0;", ";", ";"};
        int[] most = {5, 5, 5, 99, 5, 5, 9, 5, 99, 20, 20};
        for (int k = 0; k < heads.length; k++) {
            good(e, heads[k] + "0" + tails[k], 1);
            good(e, heads[k] + most[k] + tails[k], 1);
            good(e, heads[k] + "0000".substring(String.valueOf(most[k]).length()) + most[k] + tails[k], 1);
            for (int n : new int[] {most[k] + 1, most[k] + 2, 256, 1000, 9999}) {
                bad(e, heads[k] + n + tails[k], 2, heads[k].length());
            }
            bad(e, heads[k] + "10000" + tails[k], 1, heads[k].length());
            bad(e, heads[k] + "-1" + tails[k], 1, heads[k].length());
        }
    }

    private static void line21(Edges e) {
        good(e, "stop;".repeat(20), 20);
        bad(e, "stop;".repeat(21), 3, 100);
        bad(e, "stop;".repeat(20) + " \n stop;", 3, 103);
        bad(e, "stop;".repeat(20) + "read pin to 0;", 3, 100);
        bad(e, "stop;".repeat(22), 3, 100);
        bad(e, "stop;".repeat(96), 3, 100);
        bad(e, "stop;".repeat(20) + "halt;", 1, 100);
        bad(e, "stop;".repeat(20) + "stop", 1, 104);
    }

    // ---- ANSWERS, RELAYS, OWNERS, TAKEN

    private static void answers(Edges e) {
        int[] made = {0, 1, 2, 12, 13, 49, 50, 92, 93, 98, 99, 100, 101, 499, 500, 900, 992, 993, 998, 999};
        for (int kind = 0; kind < 8; kind++) {
            PretendDesk[] below = new PretendDesk[100];
            for (int n = 0; n < 100; n++) {
                below[n] = run("read " + KINDS[kind] + " to 0;if 0<" + n + " go 20;stop;");
            }
            for (int x : made) {
                int due = (x * (kind + 1) + 7) % 100;
                for (int n = 0; n < 100; n++) {
                    e.is("ANSWER of " + KINDS[kind] + " with " + x + " is below " + n, below[n].steps(0, x), due < n ? 2 : 3);
                }
            }
        }
    }

    private static void relaysAtFirst(Edges e) {
        PretendDesk x = new PretendDesk();
        for (int address = 0; address <= 9; address++) {
            e.is("goes(" + address + ", false)", x.goes(address, false), address);
            e.is("goes(" + address + ", true)", x.goes(address, true), 0);
        }
        for (int address = 0; address <= 9; address++) {
            x = new PretendDesk();
            int to = (address + 1) % 10;
            e.is("relay", x.relay(address, to), true);
            for (int other = 0; other <= 9; other++) {
                e.is("goes(" + other + ", false)", x.goes(other, false), other == address ? to : other);
            }
        }
    }

    private static void ends2(Edges e) {
        PretendDesk x = new PretendDesk();
        for (int address = 9; address > 0; address--) {
            x.relay(address, address - 1);
        }
        for (int address = 0; address <= 9; address++) {
            e.is("goes(" + address + ", false) of a row", x.goes(address, false), 0);
            e.is("goes(" + address + ", true) of a row", x.goes(address, true), address);
        }
        for (int to = 1; to <= 9; to++) {
            x.relay(0, to);
            for (int address = 0; address <= 9; address++) {
                e.is("goes(" + address + ", false) with a ring", x.goes(address, false), -1);
                e.is("goes(" + address + ", true) with a ring", x.goes(address, true), -1);
            }
        }
        x.relay(0, -1);
        e.is("no ring any more", x.goes(9, true), 9);
        x.relay(5, 6);
        for (int address = 0; address <= 9; address++) {
            e.is("goes(" + address + ", false), a ring of 5 and 6", x.goes(address, false), address < 5 ? 0 : -1);
        }
        // What comes to 9 comes in the END to 0, by the PROGRAM: owned by the HOUSE that the PAGE is LIKE, or not.
        x = Desks.bank("box;", "box;").make();
        Checks.program(x, 0, "read pin to 0;send 0 to 9;");
        for (int address = 9; address > 0; address--) {
            x.relay(address, address - 1);
            x.owner(address, 0);
        }
        e.is("the END is nobody's", x.taken(0, 0), 16);
        x.owner(0, 0);
        e.is("the END is its", x.taken(0, 0), 0);
        x.owner(9, -1);
        e.is("those on the way are no matter", x.taken(0, 0), 0);
    }

    private static void ownersAtFirst(Edges e) {
        for (int address = 0; address <= 9; address++) {
            PretendDesk x = Desks.bank("box;", "box;").make();
            Checks.program(x, 0, "read pin to 0;send 0 to " + address + ";");
            e.is("nobody's at first", x.taken(0, 0), 16);
            for (int other = 0; other <= 9; other++) {
                if (other != address) {
                    x.owner(other, 0);
                }
            }
            e.is("others are its", x.taken(0, 0), 16);
            x.owner(address, 0);
            e.is("it is its", x.taken(0, 0), 0);
        }
    }

    private static void endNotOwned(Edges e) {
        PretendDesk x = Desks.bank("box(pin;)", "box(pin day 1;pin land 1;pin land 2;)").make();
        Checks.house(x, "shop");
        Checks.own(x, 1, "box;");
        Checks.program(x, 0, "read pass to 0;send 0 to 0;read link to 5;send 5 to 9;read box to 3;");
        e.is("nobody's", x.taken(0, 0), 132);
        x.owner(0, 1);
        e.is("LIKE is 1 on DAY 0, who has 0", x.taken(0, 0), 128);
        x.owner(9, 0);
        e.is("9 is of another HOUSE", x.taken(0, 0), 128);
        x.owner(9, 1);
        e.is("both are its", x.taken(0, 0), 0);
        x.owner(0, 0);
        e.is("0 is of another HOUSE", x.taken(0, 0), 4);
        Checks.own(x, 0, "box;");
        e.is("LIKE is 0 now, of several the least", x.taken(0, 0), 128);
        x.relay(9, 0);
        e.is("9 hands on to 0", x.taken(0, 0), 0);
        x.relay(0, 5);
        e.is("0 hands on to nobody's", x.taken(0, 0), 132);
    }

    private static void withoutHouses(Edges e) {
        PretendDesk x = PAGE.make();
        Checks.program(x, 0, "read pass to 0;send 0 to 0;read link to 5;send 5 to 9;read box to 3;");
        e.is("all that come anywhere", x.taken(0, 0), 132);
        x.owner(0, -1);
        x.relay(9, 8);
        x.relay(8, 9);
        e.is("a ring, too", x.taken(0, 0), 132);
        e.is("EVER", x.taken(0, -1), 132);
        Checks.house(x, "a");
        x.owner(0, 0);
        e.is("with a HOUSE, though without PAGES", x.taken(0, 0), 128);
    }

    private static void inARing(Edges e) {
        PretendDesk x = Desks.bank("box;", "box;").make();
        for (int address = 0; address <= 9; address++) {
            x.owner(address, 0);
        }
        Checks.program(x, 0, "read pass to 0;send 0 to 0;read link to 5;send 5 to 9;");
        e.is("all are its", x.taken(0, 0), 0);
        x.relay(9, 8);
        x.relay(8, 9);
        e.is("9 is in a ring", x.taken(0, 0), 128);
        x.relay(0, 8);
        e.is("0 hands on to a ring", x.taken(0, 0), 132);
        x.relay(8, 7);
        e.is("no ring", x.taken(0, 0), 0);
        for (int address = 0; address <= 9; address++) {
            x.relay(address, (address + 1) % 10);
        }
        e.is("a ring of all", x.taken(0, 0), 132);
        x.relay(4, -1);
        e.is("all go to 4", x.taken(0, 0), 0);
    }

    private static void ever(Edges e) {
        // ANSWERS of box are x + 7, remainder by 100: 0 with 93 alone of 0 .. 99, 99 with 92, 7 with 0, 6 with 99.
        int[] has = {0, 99, 7, 6, 50};
        int[] with = {93, 92, 0, 99, 43};
        for (int k = 0; k < has.length; k++) {
            // Behind this REGISTER 1 is 99 with just one number of 0 .. 99.
            PretendDesk x = run("put " + (99 - has[k]) + " to 1;read box to 0;mix 0 to 1;read pin to 2;if 1<99 go 20;send 2 to 9;");
            for (int more = 0; more < 1000; more += 100) {
                e.is("with " + (with[k] + more), x.taken(0, with[k] + more), 16);
            }
            e.is("with one more", x.taken(0, with[k] + 1), 0);
            e.is("EVER", x.taken(0, -1), 16);
        }
        e.is("never", run("read box to 0;if 0<99 go 20;put 0 to 0;send 0 to 9;").taken(0, -1), 0);
        PretendDesk x = run("read box to 0;read card to 1;if 0<50 go 5;send 0 to 0;stop;send 1 to 1;");
        e.is("by some and by others together", x.taken(0, -1), 9);
    }

    // ---- promises 36 to 42

    private static void program(Edges e) {
        PretendDesk x = Desks.FULL.make();
        for (int page : new int[] {0, 9}) {
            e.is("program(" + page + ")", Checks.program(x, page, "stop;".repeat(20)), 20);
            e.empty("program(" + page + ")", x);
            e.fault("program(" + page + ")", x, 0, -1);
            e.is("program(" + page + ") of one", Checks.program(x, page, "put 1 to 1;"), 1);
            e.is("steps(" + page + ", 0)", x.steps(page, 0), 1);
            e.is("program(" + page + ") of none", Checks.program(x, page, ""), 0);
            e.fault("program(" + page + ") of none", x, 0, -1);
            e.is("steps(" + page + ", 0)", x.steps(page, 0), 0);
            e.is("program(" + page + ") of blanks", Checks.program(x, page, " \n "), 0);
        }
        Checks.program(x, 9, "put 1 to 1;put 1 to 1;put 1 to 1;");
        Checks.program(x, 8, "put 1 to 1;put 1 to 1;");
        e.is("steps(9, 0)", x.steps(9, 0), 3);
        e.is("steps(8, 0)", x.steps(8, 0), 2);
        e.is("steps(7, 0)", x.steps(7, 0), 0);
    }

    private static void programFault(Edges e) {
        String[] texts = {"stop", "go 21;", "stop;".repeat(21), "put 1 to 1;go 20;go 21;", "box;"};
        int[] faults = {1, 2, 3, 2, 1};
        int[] places = {4, 3, 100, 20, 0};
        for (int k = 0; k < texts.length; k++) {
            e.refusedText("program(0)", texts[k], -1, faults[k], places[k], Desks.RICH, x -> x.program(0));
            e.refusedText("program(1)", texts[k], -1, faults[k], places[k], Desks.RICH, x -> x.program(1));
            e.refusedText("program(4), which has none", texts[k], -1, faults[k], places[k], Desks.RICH, x -> x.program(4));
        }
    }

    private static void programOfNone(Edges e) {
        for (String text : new String[] {"stop;", "", "stop", "go 21;", "?"}) {
            for (int page : new int[] {5, 6, -1, 10, Integer.MIN_VALUE, Integer.MAX_VALUE}) {
                e.refusedText("program(" + page + ") of 5", text, -2, 0, -1, Desks.RICH, x -> x.program(page));
            }
            e.refusedText("program(10) of 10", text, -2, 0, -1, Desks.FULL, x -> x.program(10));
            e.refusedText("program(0) of none", text, -2, 0, -1, Desks.NEW, x -> x.program(0));
        }
        e.is("program(4) of 5", Checks.program(Desks.RICH.make(), 4, "stop;"), 1);
        e.is("program(9) of 10", Checks.program(Desks.FULL.make(), 9, "stop;"), 1);
    }

    private static void relay(Edges e) {
        for (int a = 0; a <= 9; a++) {
            for (int b = 0; b <= 9; b++) {
                PretendDesk x = new PretendDesk();
                e.is("relay(" + a + ", " + b + ")", x.relay(a, b), a != b);
                e.is("goes(" + a + ", false)", x.goes(a, false), b);
                e.is("relay(" + a + ", NONE)", x.relay(a, -1), true);
                e.is("goes(" + a + ", false), no more", x.goes(a, false), a);
            }
            e.is("relay(" + a + ", NONE) of one that hands on to none", new PretendDesk().relay(a, -1), true);
        }
    }

    private static void relayOfNone(Edges e) {
        e.range("relay(a, 9)", 0, 8, 0, Desks.RICH, (x, n) -> Edges.bit(x.relay(n, 9)));
        e.range("relay(a, 0)", 1, 9, 0, Desks.RICH, (x, n) -> Edges.bit(x.relay(n, 0)));
        e.range("relay(a, NONE)", 0, 9, 0, Desks.RICH, (x, n) -> Edges.bit(x.relay(n, -1)));
        e.range("relay(9, b)", -1, 8, 0, Desks.RICH, (x, n) -> Edges.bit(x.relay(9, n)));
        e.refused("relay(0, 10)", 0, Desks.RICH, x -> Edges.bit(x.relay(0, 10)));
        for (int a = -2; a <= 11; a++) {
            int one = a;
            e.refused("relay(" + a + ", " + a + ")", 0, Desks.RICH, x -> Edges.bit(x.relay(one, one)));
        }
    }

    private static void owner(Edges e) {
        for (int address = 0; address <= 9; address++) {
            for (int house = -1; house < 5; house++) {
                PretendDesk x = Desks.FULL.make();
                Checks.program(x, 9, "read pin to 0;send 0 to " + address + ";");
                e.is("owner(" + address + ", " + house + ")", x.owner(address, house), true);
                e.is("PAGE 9 is LIKE 4, taken", x.taken(9, 0), house == 4 ? 0 : 16);
                e.is("owner(" + address + ", NONE)", x.owner(address, -1), true);
                e.is("nobody's, taken", x.taken(9, 0), 16);
            }
        }
        e.is("owner(0, NONE) without HOUSES", new PretendDesk().owner(0, -1), true);
    }

    private static void ownerOfNone(Edges e) {
        e.range("owner(address, 0)", 0, 9, 0, Desks.RICH, (x, n) -> Edges.bit(x.owner(n, 0)));
        e.range("owner(address, NONE)", 0, 9, 0, Desks.RICH, (x, n) -> Edges.bit(x.owner(n, -1)));
        e.range("owner(3, house) of 3", -1, 2, 0, Desks.RICH, (x, n) -> Edges.bit(x.owner(3, n)));
        e.range("owner(4, house) of 3", -1, 2, 0, Desks.RICH, (x, n) -> Edges.bit(x.owner(4, n)));
        e.range("owner(4, house) of 5", -1, 4, 0, Desks.FULL, (x, n) -> Edges.bit(x.owner(4, n)));
        e.range("owner(4, house) of none", -1, -1, 0, Desks.NEW, (x, n) -> Edges.bit(x.owner(4, n)));
    }

    private static void goes(Edges e) {
        PretendDesk x = Desks.RICH.make();
        int[][] due = {{0, 0, 0}, {2, 3, 1}, {3, 3, 0}, {5, -1, -1}, {6, -1, -1}, {9, 9, 0}};
        for (int[] d : due) {
            e.is("goes(" + d[0] + ", false)", x.goes(d[0], false), d[1]);
            e.is("goes(" + d[0] + ", true)", x.goes(d[0], true), d[2]);
        }
    }

    private static void goesOfNone(Edges e) {
        e.range("goes(address, false)", 0, 9, -1, Desks.NEW, (x, n) -> x.goes(n, false));
        e.range("goes(address, true)", 0, 9, -1, Desks.NEW, (x, n) -> x.goes(n, true));
        e.refused("goes(5, false), a ring", -1, Desks.RICH, x -> x.goes(5, false));
        e.refused("goes(5, true), a ring", -1, Desks.RICH, x -> x.goes(5, true));
        e.refused("goes(10, true)", -1, Desks.RICH, x -> x.goes(10, true));
    }

    private static void sent(Edges e) {
        PretendDesk x = Desks.RICH.make();
        int[] due = {0, 0, 12, 0, 4, 0, 4, 0, 0, 0};
        for (int address = 0; address <= 9; address++) {
            e.is("sent(0, 0, " + address + "), whatever is handed on", x.sent(0, 0, address), due[address]);
            e.is("sent(4, 0, " + address + ") without a PROGRAM", x.sent(4, 0, address), 0);
        }
        // ANSWER of pin with 8 is 47, with 9 it is 52.
        e.is("sent(1, 8, 3)", x.sent(1, 8, 3), 16);
        e.is("sent(1, 9, 3)", x.sent(1, 9, 3), 0);
    }

    private static void sentOfNone(Edges e) {
        e.range("sent(page, 0, 0) of 5", 0, 4, -1, Desks.RICH, (x, n) -> x.sent(n, 0, 0));
        e.range("sent(page, 0, 0) of 10", 0, 9, -1, Desks.FULL, (x, n) -> x.sent(n, 0, 0));
        e.range("sent(0, x, 0)", 0, 999, -1, Desks.RICH, (x, n) -> x.sent(0, n, 0));
        e.range("sent(0, 0, address)", 0, 9, -1, Desks.RICH, (x, n) -> x.sent(0, 0, n));
        e.refused("sent(0, 0, 0) of none", -1, Desks.NEW, x -> x.sent(0, 0, 0));
    }

    private static void steps(Edges e) {
        PretendDesk x = Desks.RICH.make();
        int[][] due = {{0, 0, 6}, {0, 999, 6}, {1, 8, 3}, {1, 9, 200}, {4, 0, 0}};
        for (int[] d : due) {
            e.is("steps(" + d[0] + ", " + d[1] + ")", x.steps(d[0], d[1]), d[2]);
        }
    }

    private static void stepsOfNone(Edges e) {
        e.range("steps(page, 0) of 5", 0, 4, -1, Desks.RICH, (x, n) -> x.steps(n, 0));
        e.range("steps(page, 0) of 10", 0, 9, -1, Desks.FULL, (x, n) -> x.steps(n, 0));
        e.range("steps(0, x)", 0, 999, -1, Desks.RICH, (x, n) -> x.steps(0, n));
        e.refused("steps(0, 0) of none", -1, Desks.NEW, x -> x.steps(0, 0));
    }

    private static void taken(Edges e) {
        PretendDesk x = Desks.RICH.make();
        // 2 hands on to 3, which is HOUSE 0's; 4 is HOUSE 1's; 6 is in a ring.
        e.is("taken(0, 0)", x.taken(0, 0), 4);
        e.is("taken(0, NONE)", x.taken(0, -1), 4);
        // PAGE 1 is LIKE HOUSE 1, and 3 is HOUSE 0's.
        e.is("taken(1, 8)", x.taken(1, 8), 16);
        e.is("taken(1, 9)", x.taken(1, 9), 0);
        e.is("taken(1, 999)", x.taken(1, 999), 16);
        e.is("taken(1, NONE)", x.taken(1, -1), 16);
    }

    private static void takenOfNone(Edges e) {
        e.range("taken(page, 0) of 5", 0, 4, -1, Desks.RICH, (x, n) -> x.taken(n, 0));
        e.range("taken(page, NONE) of 10", 0, 9, -1, Desks.FULL, (x, n) -> x.taken(n, -1));
        e.range("taken(0, x)", -1, 999, -1, Desks.RICH, (x, n) -> x.taken(0, n));
        e.refused("taken(0, NONE) of none", -1, Desks.NEW, x -> x.taken(0, -1));
    }
}
