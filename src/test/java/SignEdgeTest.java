/** The edges of promises 11, 12, 18, 20, 21, 22 and 35: stands, worth, asks, marks, signs, say, warn; of the SIGNS. */
public final class SignEdgeTest {
    private static final String[] KINDS = {"box", "form", "pass", "card", "pin", "logo", "text", "link"};
    private static final int ALL_PIECES = (1 << 20) - 1;
    /** LOOK 2 at HOUSE 0, ASK 50, no NAME. */
    private static final Edges.Maker CRYING = Desks.bank("box(logo;pass;)", "box(logo;pass;link;)");

    public static void main(String[] args) {
        Edges.run("SignEdgeTest", SignEdgeTest::sentences);
    }

    static void sentences(Edges e) {
        e.of("Term 2", "PAGES that came, at most 10, from 0 on, have a NAME to which they take what is asked "
                + "(told; none at first),", SignEdgeTest::nameToldNoneAtFirst);
        e.of("Term 2", "a DAY since when they stand (0 .. 99; 0 at first),", SignEdgeTest::daySinceWhen);
        e.of("Term 2", "PIECES (bits 0 .. 19; none at first).", SignEdgeTest::pieces);
        e.of("Promise 11", "A PAGE stands since a DAY, with PIECES: true;", SignEdgeTest::stands);
        e.of("Promise 11", "false: there is none such (of any).", SignEdgeTest::standsOfNone);
        e.of("Term 2", "WORTH of a KIND, 0 .. 99 (pass 50, card 60, pin 70, others 0 at first).", SignEdgeTest::worthAtFirst);
        e.of("Promise 12", "WORTH of a KIND from now on: true;", SignEdgeTest::worth);
        e.of("Promise 12", "false: there is none such, or another number.", SignEdgeTest::worthOfNone);
        e.of("Term 2", "ASK: WORTH of all its BOXES together.", SignEdgeTest::askTogether);
        e.of("Promise 18", "ASK.", SignEdgeTest::asks);
        e.of("Promise 18", "NONE: there is none such (of any).", SignEdgeTest::asksOfNone);
        e.of("Term 2", "AGE: DAY of the PERSON less that since when it stands, 0 if below.", SignEdgeTest::age);
        e.of("Term 2", "MARKS: a, 0 .. 60, b, 0 .. 200, c, 0 .. 99 (10, 40, 30 at first).", SignEdgeTest::marksAtFirst);
        e.of("Promise 20", "MARKS from now on: true;", SignEdgeTest::marks);
        e.of("Promise 20", "false: other numbers.", SignEdgeTest::otherMarks);
        signs(e);
    }

    private static void signs(Edges e) {
        e.of("Term 2", "SIGNS: 1 it looks like somebody: LOOK at LIKE is a at most;", SignEdgeTest::looksLike);
        e.of("Term 2", "2 it asks: ASK is b at least;", SignEdgeTest::asksSoMuch);
        e.of("Term 2", "4 it takes it elsewhere: its NAME is not that of LIKE (none is not),", SignEdgeTest::notItsName);
        e.of("Term 2", "and AGE is c at most.", SignEdgeTest::ageAtMost);
        e.of("Promise 21", "SIGNS, as bits", SignEdgeTest::signsAsBits);
        e.of("Promise 21", "(without HOUSES 2 alone may be).", SignEdgeTest::withoutHouses);
        e.of("Promise 21", "NONE: there is none such (of any).", SignEdgeTest::signsOfNone);
        e.of("Term 2", "SAY: 2 CRY with all three, 1 DOUBT with two, else 0 LET BE.", SignEdgeTest::sayBySigns);
        e.of("Promise 22", "SAY.", SignEdgeTest::say);
        e.of("Promise 22", "NONE: there is none such (of any).", SignEdgeTest::sayOfNone);
        e.of("Term 4", "WARN of a HOUSE: the PAGES (bits) that cry at it (LIKE is that HOUSE), opened by a PERSON.",
                SignEdgeTest::warnOfHouse);
        e.of("Promise 35", "WARN.", SignEdgeTest::warn);
        e.of("Promise 35", "NONE: there is none such (of any).", SignEdgeTest::warnOfNone);
    }

    // ---- what is told of a PAGE that came

    private static void nameToldNoneAtFirst(Edges e) {
        PretendDesk x = new PretendDesk();
        Checks.house(x, "a");
        for (int k = 0; k < 10; k++) {
            e.is("page", Checks.page(x, "box;"), k);
            e.is("no NAME at first, spell(" + k + ", 0)", x.spell(k, 0), -1);
            e.is("name(" + k + ")", Checks.name(x, k, "a"), true);
            e.is("told, spell(" + k + ", 0)", x.spell(k, 0), 0);
        }
        e.is("an eleventh", Checks.page(x, "box;"), -2);
    }

    private static void daySinceWhen(Edges e) {
        PretendDesk x = CRYING.make();
        x.marks(60, 0, 0);
        e.is("since DAY 0 at first, DAY 0", x.signs(0, 0, 0), 7);
        e.is("since DAY 0 at first, DAY 1", x.signs(0, 0, 1), 3);
        for (int day = 0; day <= 99; day++) {
            e.is("stands since " + day, x.stands(0, day, 0), true);
            e.is("on that DAY " + day, x.signs(0, 0, day), 7);
            if (day < 99) {
                e.is("a DAY later", x.signs(0, 0, day + 1), 3);
            }
        }
        e.is("since 100", x.stands(0, 100, 0), false);
    }

    private static void pieces(Edges e) {
        PretendDesk x = Desks.came("box;", "box;").make();
        e.is("none at first, odds(1, 0, 1)", x.odds(1, 0, 1), 1);
        e.is("ring(0, 1) without PIECES", x.ring(0, 1), 1);
        x.stands(1, 0, ALL_PIECES);
        for (int bit = 0; bit < 20; bit++) {
            e.is("PIECE " + bit, x.stands(0, 0, 1 << bit), true);
            e.is("one PIECE, odds(1, 0, 1)", x.odds(1, 0, 1), 20);
            e.is("it is shared, ring(0, 1)", x.ring(0, 1), 3);
        }
        e.is("PIECE 20", x.stands(0, 0, 1 << 20), false);
        e.is("PIECE 31", x.stands(0, 0, 1 << 31), false);
    }

    private static void stands(Edges e) {
        PretendDesk x = Desks.FULL.make();
        for (int page = 0; page < 10; page++) {
            e.is("stands(" + page + ", 99, all)", x.stands(page, 99, ALL_PIECES), true);
            e.is("stands(" + page + ", 0, 0)", x.stands(page, 0, 0), true);
            e.is("no PIECES, odds", x.odds((page + 1) % 10, page, 1), 1);
            e.is("stands(" + page + ", 50, 1)", x.stands(page, 50, 1), true);
            e.is("one, odds", x.odds((page + 1) % 10, page, 1), 20);
        }
        e.is("the PAGE before has its own still", x.ring(0, 20), 1023);
    }

    private static void standsOfNone(Edges e) {
        e.range("stands(page, 1, 1) of 5", 0, 4, 0, Desks.RICH, (x, n) -> Edges.bit(x.stands(n, 1, 1)));
        e.range("stands(page, 1, 1) of 10", 0, 9, 0, Desks.FULL, (x, n) -> Edges.bit(x.stands(n, 1, 1)));
        e.range("stands(0, day, 1)", 0, 99, 0, Desks.RICH, (x, n) -> Edges.bit(x.stands(0, n, 1)));
        e.range("stands(0, 1, pieces)", 0, ALL_PIECES, 0, Desks.RICH, (x, n) -> Edges.bit(x.stands(0, 1, n)));
        e.refused("stands(0, 0, 0) of none", 0, Desks.NEW, x -> Edges.bit(x.stands(0, 0, 0)));
    }

    // ---- WORTH, ASK

    private static void worthAtFirst(Edges e) {
        int[] due = {0, 0, 50, 60, 70, 0, 0, 0};
        for (int kind = 0; kind < 8; kind++) {
            PretendDesk x = Desks.came(KINDS[kind] + ";").make();
            e.is("count(" + (30 + kind) + ")", x.count(30 + kind), due[kind]);
            e.is("ask of one " + KINDS[kind], x.asks(0, 0, 0), due[kind]);
            for (int worth : new int[] {0, 1, 98, 99}) {
                e.is("worth(" + kind + ", " + worth + ")", x.worth(kind, worth), true);
                e.is("ask of it", x.asks(0, 0, 0), worth);
            }
            e.is("worth(" + kind + ", 100)", x.worth(kind, 100), false);
            e.is("worth(" + kind + ", -1)", x.worth(kind, -1), false);
            e.is("it stays", x.asks(0, 0, 0), 99);
        }
    }

    private static void worth(Edges e) {
        for (int kind = 0; kind < 8; kind++) {
            PretendDesk x = new PretendDesk();
            e.is("worth(" + kind + ", 99)", x.worth(kind, 99), true);
            for (int other = 0; other < 8; other++) {
                int before = new PretendDesk().count(30 + other);
                e.is("count(" + (30 + other) + ")", x.count(30 + other), other == kind ? 99 : before);
            }
        }
    }

    private static void worthOfNone(Edges e) {
        e.range("worth(kind, 5)", 0, 7, 0, Desks.RICH, (x, n) -> Edges.bit(x.worth(n, 5)));
        e.range("worth(7, worth)", 0, 99, 0, Desks.RICH, (x, n) -> Edges.bit(x.worth(7, n)));
        e.range("worth(0, worth)", 0, 99, 0, Desks.NEW, (x, n) -> Edges.bit(x.worth(0, n)));
    }

    private static void askTogether(Edges e) {
        PretendDesk x = Desks.came("box(" + "pin;".repeat(13) + ")", "pin(pin(pin(pin(pin(pin;)))))", "box(pass;pass land 1;card day 9;)",
                "box land 3(pin;)").make();
        e.is("13 pins", x.asks(0, 0, 0), 910);
        e.is("6 pins, one in another", x.asks(1, 0, 0), 420);
        e.is("those that are shown alone", x.asks(2, 0, 8), 50);
        e.is("those that are shown alone, LAND 1", x.asks(2, 1, 8), 100);
        e.is("those that are shown alone, DAY 9", x.asks(2, 0, 9), 110);
        e.is("an empty PAGE", x.asks(3, 0, 0), 0);
        x.worth(4, 99);
        x.worth(0, 99);
        e.is("the most: 14 of 99", x.asks(0, 0, 0), 1386);
    }

    private static void asks(Edges e) {
        PretendDesk x = Desks.FULL.make();
        int[] due = {50, 50, 60, 130, 0, 0, 70, 60, 0, 210};
        for (int page = 0; page < 10; page++) {
            e.is("asks(" + page + ", 0, 0)", x.asks(page, 0, 0), due[page]);
        }
        e.is("asks(7, 1, 99)", x.asks(7, 1, 99), 110);
    }

    private static void asksOfNone(Edges e) {
        e.range("asks(page, 0, 0) of 5", 0, 4, -1, Desks.RICH, (x, n) -> x.asks(n, 0, 0));
        e.range("asks(page, 0, 0) of 10", 0, 9, -1, Desks.FULL, (x, n) -> x.asks(n, 0, 0));
        e.range("asks(0, land, 0)", 0, 3, -1, Desks.RICH, (x, n) -> x.asks(0, n, 0));
        e.range("asks(0, 0, day)", 0, 99, -1, Desks.RICH, (x, n) -> x.asks(0, 0, n));
        e.refused("asks(0, 0, 0) of none", -1, Desks.NEW, x -> x.asks(0, 0, 0));
    }

    // ---- AGE, MARKS

    private static void age(Edges e) {
        for (int since : new int[] {0, 1, 50, 99}) {
            for (int c : new int[] {0, 1, 49, 50, 98, 99}) {
                PretendDesk x = CRYING.make();
                x.stands(0, since, 0);
                x.marks(60, 0, c);
                for (int day : new int[] {0, since - 1, since, since + 1, since + c - 1, since + c, since + c + 1, 99}) {
                    if (day >= 0 && day <= 99) {
                        boolean young = day < since || day - since <= c;
                        e.is("since " + since + ", c " + c + ", DAY " + day, x.signs(0, 0, day), young ? 7 : 3);
                    }
                }
            }
        }
    }

    private static void marksAtFirst(Edges e) {
        PretendDesk x = new PretendDesk();
        e.is("a", x.count(3), 10);
        e.is("b", x.count(4), 40);
        e.is("c", x.count(5), 30);
        x = Desks.bank("box;", "box(text;text;text;text;text;)", "box(text;text;text;text;text;text;)", "pass;", "logo;").make();
        e.is("LOOK 10", x.signs(0, 0, 31), 1);
        e.is("LOOK 12", x.signs(1, 0, 31), 0);
        x.worth(5, 39);
        e.is("ASK 39", x.signs(3, 0, 31), 1);
        x.worth(5, 40);
        e.is("ASK 40", x.signs(3, 0, 31), 3);
        e.is("AGE 30", x.signs(1, 0, 30), 4);
        e.is("AGE 31", x.signs(1, 0, 31), 0);
    }

    private static void marks(Edges e) {
        int[][] rows = {{0, 0, 0}, {60, 200, 99}, {60, 0, 0}, {0, 200, 0}, {0, 0, 99}, {1, 1, 1}, {59, 199, 98}, {10, 40, 30}};
        PretendDesk x = new PretendDesk();
        for (int[] row : rows) {
            e.is("marks(" + row[0] + ", " + row[1] + ", " + row[2] + ")", x.marks(row[0], row[1], row[2]), true);
            for (int k = 0; k < 3; k++) {
                e.is("count(" + (3 + k) + ")", x.count(3 + k), row[k]);
            }
        }
    }

    private static void otherMarks(Edges e) {
        e.range("marks(a, 1, 1)", 0, 60, 0, Desks.RICH, (x, n) -> Edges.bit(x.marks(n, 1, 1)));
        e.range("marks(1, b, 1)", 0, 200, 0, Desks.RICH, (x, n) -> Edges.bit(x.marks(1, n, 1)));
        e.range("marks(1, 1, c)", 0, 99, 0, Desks.RICH, (x, n) -> Edges.bit(x.marks(1, 1, n)));
    }

    // ---- SIGNS and SAY

    private static void looksLike(Edges e) {
        PretendDesk x = CRYING.make();
        for (int a = 0; a <= 60; a++) {
            x.marks(a, 200, 0);
            e.is("LOOK 2 by a " + a, x.signs(0, 0, 99), a >= 2 ? 1 : 0);
        }
        // 14 BOXES and one; they ask, too.
        x = Desks.bank("box;", "box(form;card;pass;pin;logo;text;link;form;card;pass;pin;logo;text;)").make();
        x.marks(26, 200, 0);
        e.is("LOOK 26 by 26", x.signs(0, 0, 99), 3);
        x.marks(25, 200, 0);
        e.is("LOOK 26 by 25", x.signs(0, 0, 99), 2);
        x = Desks.came("box;").make();
        Checks.house(x, "a");
        x.marks(60, 200, 0);
        e.is("LOOK 999 by 60", x.signs(0, 0, 99), 0);
        Checks.own(x, 0, "box;");
        x.marks(0, 200, 0);
        e.is("LOOK 0 by 0", x.signs(0, 0, 99), 1);
    }

    private static void asksSoMuch(Edges e) {
        PretendDesk x = Desks.came("box(pin;card;pin;)", "box;", "box(pin;pin;pin;)").make();
        for (int b : new int[] {0, 1, 199, 200}) {
            x.marks(0, b, 0);
            e.is("ASK 200 by b " + b, x.signs(0, 0, 0), 2);
            e.is("ASK 0 by b " + b, x.signs(1, 0, 0), b == 0 ? 2 : 0);
        }
        x.worth(3, 59);
        e.is("ASK 199 by 200", x.signs(0, 0, 0), 0);
        x.marks(0, 199, 0);
        e.is("ASK 199 by 199", x.signs(0, 0, 0), 2);
        e.is("ASK 210 by 199", x.signs(2, 0, 0), 2);
    }

    private static void notItsName(Edges e) {
        PretendDesk x = Desks.bank("box(logo;pass;)", "box(logo;pass;)").make();
        x.marks(0, 50, 0);
        e.is("none is not", x.signs(0, 0, 0), 7);
        String[] names = {"bank", "ban", "bankk", "bamk", "b", "bank0", "bank"};
        for (String name : names) {
            Checks.name(x, 0, name);
            e.is("NAME " + name, x.signs(0, 0, 0), name.equals("bank") ? 3 : 7);
        }
        Checks.house(x, "shop");
        Checks.own(x, 1, "box(logo;pass;)");
        e.is("LIKE is the first of two", x.signs(0, 0, 0), 3);
        Checks.name(x, 0, "shop");
        e.is("the NAME of another HOUSE as near", x.signs(0, 0, 0), 7);
        x.alike('k', 'l', 1);
        Checks.name(x, 0, "banl");
        e.is("a NAME of ALIKE signs is not that", x.signs(0, 0, 0), 7);
        x = Desks.came("box;").make();
        Checks.house(x, "abcdefghijkl");
        x.marks(0, 200, 0);
        Checks.name(x, 0, "abcdefghijkm");
        e.is("12 signs, the last one another", x.signs(0, 0, 0), 4);
        Checks.name(x, 0, "abcdefghijkl");
        e.is("12 signs, that of LIKE without PAGES", x.signs(0, 0, 0), 0);
    }

    private static void ageAtMost(Edges e) {
        PretendDesk x = CRYING.make();
        for (int c : new int[] {0, 1, 50, 98, 99}) {
            x.marks(2, 50, c);
            e.is("AGE " + c + " by " + c, x.signs(0, 0, c), 7);
            e.is("AGE 0 by " + c, x.signs(0, 0, 0), 7);
            if (c < 99) {
                e.is("AGE " + (c + 1) + " by " + c, x.signs(0, 0, c + 1), 3);
            }
        }
    }

    /** A desk whose PAGE has just these SIGNS on DAY 1. */
    private static PretendDesk signed(int signs) {
        PretendDesk x = CRYING.make();
        x.marks((signs & 1) != 0 ? 2 : 1, (signs & 2) != 0 ? 50 : 51, (signs & 4) != 0 ? 1 : 0);
        return x;
    }

    private static void signsAsBits(Edges e) {
        for (int signs = 0; signs < 8; signs++) {
            e.is("signs(0, 0, 1)", signed(signs).signs(0, 0, 1), signs);
        }
    }

    private static void withoutHouses(Edges e) {
        PretendDesk x = Desks.came("box(pass;)", "box;").make();
        x.marks(60, 50, 99);
        e.is("ASK 50 by 50", x.signs(0, 0, 0), 2);
        e.is("ASK 0 by 50", x.signs(1, 0, 0), 0);
        e.is("say of 2 alone", x.say(0, 0, 0), 0);
        x.marks(60, 51, 99);
        e.is("ASK 50 by 51", x.signs(0, 0, 0), 0);
        x.marks(60, 0, 99);
        e.is("ASK 0 by 0", x.signs(1, 0, 0), 2);
        Checks.house(x, "a");
        e.is("with a HOUSE that has no PAGES", x.signs(1, 0, 0), 6);
        Checks.own(x, 0, "box;");
        e.is("with a HOUSE that has one", x.signs(1, 0, 0), 7);
    }

    private static void signsOfNone(Edges e) {
        e.range("signs(page, 0, 0) of 5", 0, 4, -1, Desks.RICH, (x, n) -> x.signs(n, 0, 0));
        e.range("signs(page, 0, 0) of 10", 0, 9, -1, Desks.FULL, (x, n) -> x.signs(n, 0, 0));
        e.range("signs(0, land, 0)", 0, 3, -1, Desks.RICH, (x, n) -> x.signs(0, n, 0));
        e.range("signs(0, 0, day)", 0, 99, -1, Desks.RICH, (x, n) -> x.signs(0, 0, n));
        e.refused("signs(0, 0, 0) of none", -1, Desks.NEW, x -> x.signs(0, 0, 0));
    }

    private static void sayBySigns(Edges e) {
        int[] due = {0, 0, 0, 1, 0, 1, 1, 2};
        for (int signs = 0; signs < 8; signs++) {
            e.is("say by SIGNS " + signs, signed(signs).say(0, 0, 1), due[signs]);
        }
    }

    private static void say(Edges e) {
        PretendDesk x = Desks.RICH.make();
        int[][] due = {{0, 0, 0, 2}, {0, 0, 35, 2}, {0, 0, 36, 1}, {1, 0, 40, 2}, {1, 0, 41, 1}, {2, 0, 30, 2}, {2, 0, 31, 1},
            {3, 0, 0, 1}, {3, 0, 31, 0}, {3, 1, 31, 1}};
        for (int[] d : due) {
            e.is("say(" + d[0] + ", " + d[1] + ", " + d[2] + ")", x.say(d[0], d[1], d[2]), d[3]);
        }
    }

    private static void sayOfNone(Edges e) {
        e.range("say(page, 0, 0) of 5", 0, 4, -1, Desks.RICH, (x, n) -> x.say(n, 0, 0));
        e.range("say(page, 0, 0) of 10", 0, 9, -1, Desks.FULL, (x, n) -> x.say(n, 0, 0));
        e.range("say(0, land, 0)", 0, 3, -1, Desks.RICH, (x, n) -> x.say(0, n, 0));
        e.range("say(0, 0, day)", 0, 99, -1, Desks.RICH, (x, n) -> x.say(0, 0, n));
        e.refused("say(0, 0, 0) of none", -1, Desks.NEW, x -> x.say(0, 0, 0));
    }

    // ---- WARN

    private static void warnOfHouse(Edges e) {
        PretendDesk x = new PretendDesk();
        for (int k = 0; k < 5; k++) {
            Checks.house(x, "h" + k);
            Checks.own(x, k, "box " + k + "(pass;)");
        }
        for (int k = 0; k < 10; k++) {
            Checks.page(x, "box " + k % 5 + "(pass" + (k == 7 ? " land 2" : k == 8 ? " day 9" : "") + ";)");
        }
        Checks.name(x, 5, "h0");
        Checks.name(x, 6, "h0");
        int[] due = {1, 66, 4, 8, 528};
        for (int house = 0; house < 5; house++) {
            e.is("warn(" + house + ", 0, 0)", x.warn(house, 0, 0), due[house]);
        }
        e.is("warn(2, 2, 0)", x.warn(2, 2, 0), 132);
        e.is("warn(3, 0, 8)", x.warn(3, 0, 8), 8);
        e.is("warn(3, 0, 9)", x.warn(3, 0, 9), 264);
        e.is("warn(3, 0, 30)", x.warn(3, 0, 30), 264);
        e.is("warn(3, 0, 31)", x.warn(3, 0, 31), 0);
        for (int page = 0; page < 10; page++) {
            Checks.name(x, page, "z");
        }
        e.is("warn(0, 0, 0), each of another NAME", x.warn(0, 0, 0), 33);
        e.is("warn(4, 0, 0), each of another NAME", x.warn(4, 0, 0), 528);
    }

    private static void warn(Edges e) {
        PretendDesk x = Desks.RICH.make();
        e.is("warn(0, 0, 0)", x.warn(0, 0, 0), 1 | 4 | 16);
        e.is("warn(1, 0, 0)", x.warn(1, 0, 0), 2);
        e.is("warn(2, 0, 0), a HOUSE that nobody is like", x.warn(2, 0, 0), 0);
    }

    private static void warnOfNone(Edges e) {
        e.range("warn(house, 0, 0) of 3", 0, 2, -1, Desks.RICH, (x, n) -> x.warn(n, 0, 0));
        e.range("warn(house, 0, 0) of 5", 0, 4, -1, Desks.FULL, (x, n) -> x.warn(n, 0, 0));
        e.range("warn(0, land, 0)", 0, 3, -1, Desks.RICH, (x, n) -> x.warn(0, n, 0));
        e.range("warn(0, 0, day)", 0, 99, -1, Desks.RICH, (x, n) -> x.warn(0, 0, n));
        e.refused("warn(0, 0, 0) of none", -1, Desks.came("box;"), x -> x.warn(0, 0, 0));
    }
}
