/** The edges of promises 26 and 27: keep, fit; of CASES and BEST MARKS. */
public final class MarksEdgeTest {
    private static final int A = 0;
    private static final int B = 1;
    private static final int C = 2;

    public static void main(String[] args) {
        Edges.run("MarksEdgeTest", MarksEdgeTest::sentences);
    }

    static void sentences(Edges e) {
        e.of("Term 3", "CASES: a PAGE is kept as one that PRETENDS, or as HONEST (as opened by LAND 0 on a DAY told);",
                MarksEdgeTest::asOpened);
        e.of("Term 3", "at most 16, from 0 on.", MarksEdgeTest::atMost16);
        e.of("Promise 26", "A CASE: its number.", MarksEdgeTest::keep);
        e.of("Promise 26", "NONE: there are 16,", MarksEdgeTest::keepWhen16);
        e.of("Promise 26", "or there is none such PAGE, DAY.", MarksEdgeTest::keepOfNone);
        e.of("Term 3", "BEST MARKS with h, 0 .. 16: of all MARKS by which h HONEST CASES at most are cried at",
                MarksEdgeTest::honestAtMost);
        e.of("Term 3", "those by which fewest that PRETEND are not cried at;", MarksEdgeTest::fewestMissed);
        e.of("Term 3", "then of the fewest HONEST ones;", MarksEdgeTest::fewestHonest);
        e.of("Term 3", "then the least row (a, b, c).", MarksEdgeTest::leastRow);
        e.of("Promise 27", "BEST MARKS, what 0: a, 1: b, 2: c, 3: how many that PRETEND are not cried at, "
                + "4: how many HONEST are.", MarksEdgeTest::fit);
        e.of("Promise 27", "NONE: there is no such h,", MarksEdgeTest::fitOfNoSuchH);
        e.of("Promise 27", "there are no such MARKS,", MarksEdgeTest::fitWithoutSuchMarks);
        e.of("Promise 27", "or for another what.", MarksEdgeTest::fitOfAnotherWhat);
    }

    private static void due(Edges e, PretendDesk x, int h, int... row) {
        for (int what = 0; what < row.length; what++) {
            e.is("fit(" + h + ", " + what + ")", x.fit(h, what), row[what]);
        }
    }

    /** HOUSE "bank" and PAGES with LOOK 0, 2, 4, 6 and ASK 50, 100, 150, 200. */
    private static PretendDesk four() {
        return Desks.bank("box(pass;)", "box(pass;)", "box(pass;pass;)", "box(pass;pass;pass;)", "box(pass;pass;pass;pass;)").make();
    }

    // ---- CASES

    private static void asOpened(Edges e) {
        PretendDesk x = Desks.bank("box;", "box(pass land 0;pass day 9;)", "box(pin land 1;)").make();
        x.keep(0, 8, true);
        due(e, x, 0, 2, 0, 8, 0, 0);
        x.keep(0, 9, true);
        due(e, x, 0, 4, 0, 9, 0, 0);
        x = Desks.bank("box;", "box(pass land 0;pass day 9;)", "box(pin land 1;)").make();
        x.keep(1, 99, true);
        due(e, x, 0, 0, 0, 99, 0, 0);
        x = Desks.bank("box(pin land 1;card land 2;text land 3;link day 1;)", "box;").make();
        x.keep(0, 0, true);
        due(e, x, 0, 0, 0, 0, 0, 0);
        x.keep(0, 0, false);
        due(e, x, 0, 0, 1, 0, 1, 0);
    }

    private static void atMost16(Edges e) {
        for (boolean pretends : new boolean[] {true, false}) {
            PretendDesk x = four();
            for (int k = 0; k < 16; k++) {
                e.is("keep", x.keep(k % 4, k, pretends), k);
                e.is("count(2)", x.count(2), k + 1);
            }
            e.is("keep, the 17th", x.keep(0, 0, pretends), -1);
            e.is("count(2)", x.count(2), 16);
            e.is("all are there", x.fit(16, pretends ? C : 4), pretends ? 15 : 0);
        }
        PretendDesk x = four();
        for (int k = 0; k < 16; k++) {
            x.keep(0, 0, false);
        }
        due(e, x, 0, 0, 51, 0, 0, 0);
    }

    private static void keep(Edges e) {
        PretendDesk x = Desks.FULL.make();
        e.is("count(2)", x.count(2), 16);
        x = Desks.RICH.make();
        e.is("keep(4, 99, true), the last PAGE and DAY", x.keep(4, 99, true), 3);
        e.is("keep(0, 0, false), the first ones", x.keep(0, 0, false), 4);
        e.is("the same once more", x.keep(0, 0, false), 5);
        e.is("the same as one that PRETENDS", x.keep(0, 0, true), 6);
        e.is("count(2)", x.count(2), 7);
    }

    private static void keepWhen16(Edges e) {
        e.refused("keep(0, 0, true) when there are 16", -1, Desks.FULL, x -> x.keep(0, 0, true));
        e.refused("keep(9, 99, false) when there are 16", -1, Desks.FULL, x -> x.keep(9, 99, false));
        Edges.Maker fifteen = () -> {
            PretendDesk x = four();
            for (int k = 0; k < 15; k++) {
                x.keep(0, 0, true);
            }
            return x;
        };
        e.is("keep when there are 15", fifteen.make().keep(1, 1, true), 15);
        e.refused("keep of no PAGE when there are 15", -1, fifteen, x -> x.keep(4, 1, true));
    }

    private static void keepOfNone(Edges e) {
        e.range("keep(page, 0, true) of 5", 0, 4, -1, Desks.RICH, (x, n) -> x.keep(n, 0, true));
        e.range("keep(0, day, true)", 0, 99, -1, Desks.RICH, (x, n) -> x.keep(0, n, true));
        e.range("keep(0, day, false)", 0, 99, -1, Desks.RICH, (x, n) -> x.keep(0, n, false));
        e.refused("keep(0, 0, true) of none", -1, Desks.NEW, x -> x.keep(0, 0, true));
    }

    // ---- BEST MARKS

    private static void honestAtMost(Edges e) {
        // One that PRETENDS on DAY 0 is cried at by all MARKS that cry at all the HONEST ones.
        for (int honest = 0; honest <= 15; honest++) {
            PretendDesk x = four();
            x.keep(0, 0, true);
            for (int k = 0; k < honest; k++) {
                x.keep(0, 0, false);
            }
            if (honest > 0) {
                due(e, x, honest - 1, 0, 51, 0, 1, 0);
            }
            due(e, x, honest, 0, 0, 0, 0, honest);
            due(e, x, 16, 0, 0, 0, 0, honest);
        }
        PretendDesk x = four();
        for (int k = 0; k < 16; k++) {
            x.keep(0, 0, false);
        }
        due(e, x, 16, 0, 51, 0, 0, 0);
    }

    private static void fewestMissed(Edges e) {
        PretendDesk x = four();
        x.keep(3, 0, true);
        x.keep(2, 0, false);
        x.keep(1, 0, true);
        x.keep(0, 0, true);
        // PAGES 0 and 1 by a of 2, or PAGE 3 alone by b of 151; with one HONEST one all.
        due(e, x, 0, 2, 0, 0, 1, 0);
        due(e, x, 1, 6, 0, 0, 0, 1);
        x.keep(3, 1, true);
        due(e, x, 0, 2, 0, 0, 2, 0);
        x.keep(3, 2, true);
        due(e, x, 0, 6, 151, 2, 2, 0);
        due(e, x, 1, 6, 0, 2, 0, 1);
    }

    private static void fewestHonest(Edges e) {
        PretendDesk x = four();
        x.keep(1, 10, true);
        x.keep(0, 10, false);
        x.keep(2, 10, false);
        x.keep(1, 11, false);
        due(e, x, 0, 2, 51, 10, 0, 0);
        due(e, x, 16, 2, 51, 10, 0, 0);
        // With c of 10 an HONEST one of AGE 9 is cried at, too: none at all then, by the least row.
        x.keep(1, 9, false);
        due(e, x, 0, 0, 0, 0, 1, 0);
        due(e, x, 1, 2, 51, 10, 0, 1);
        due(e, x, 2, 2, 51, 10, 0, 1);
    }

    private static void leastRow(Edges e) {
        due(e, new PretendDesk(), 0, 0, 0, 0, 0, 0);
        PretendDesk x = four();
        x.keep(3, 99, true);
        due(e, x, 0, 6, 0, 99, 0, 0);
        // Two rows with one miss each: the one of the least a.
        x = four();
        x.keep(0, 99, true);
        x.keep(2, 0, true);
        x.keep(1, 0, false);
        x.keep(2, 50, false);
        due(e, x, 0, 0, 0, 99, 1, 0);
        // Of the same a the one of the least b, of the same a and b the one of the least c.
        x = four();
        x.keep(1, 7, true);
        x.keep(0, 3, false);
        x.keep(1, 9, false);
        due(e, x, 0, 2, 51, 7, 0, 0);
        x.keep(0, 8, false);
        x.keep(1, 5, true);
        due(e, x, 0, 2, 51, 7, 0, 0);
        due(e, x, 1, 2, 51, 7, 0, 0);
        x = Desks.bank("box(pass;)", "box(pass;)", "box(pass;)").make();
        x.worth(2, 99);
        x.worth(0, 99);
        x.keep(0, 99, true);
        due(e, x, 0, 0, 0, 99, 0, 0);
        x.worth(0, 1);
        x.keep(0, 99, false);
        due(e, x, 1, 0, 0, 99, 0, 1);
        due(e, x, 0, 0, 0, 0, 1, 0);
        // The greatest MARKS that a row can need: LOOK 60 at most, b of 200, c of 99.
        x = Desks.bank("box(pass;card;pin;)", "box(pass;card;pin;text;)", "box(pass;card;pin;)").make();
        x.worth(2, 64);
        x.worth(3, 65);
        x.worth(4, 70);
        x.worth(6, 1);
        x.keep(0, 99, true);
        x.keep(1, 99, false);
        due(e, x, 0, 2, 200, 99, 0, 0);
        x.worth(2, 65);
        due(e, x, 0, 0, 0, 0, 1, 0);
    }

    private static void fit(Edges e) {
        PretendDesk x = four();
        x.keep(1, 50, true);
        x.keep(3, 70, true);
        x.keep(2, 60, false);
        x.keep(0, 50, false);
        x.keep(0, 40, false);
        due(e, x, 0, 2, 51, 50, 1, 0);
        due(e, x, 1, 6, 51, 70, 0, 1);
        due(e, x, 2, 6, 51, 70, 0, 1);
        x.stands(1, 50, 0);
        x.stands(3, 70, 0);
        due(e, x, 0, 6, 0, 0, 0, 0);
        Checks.name(x, 3, "bank");
        due(e, x, 0, 2, 0, 0, 1, 0);
    }

    private static void fitOfNoSuchH(Edges e) {
        for (int what = 0; what < 5; what++) {
            int asked = what;
            e.range("fit(h, " + what + ")", 0, 16, -1, Desks.RICH, (x, n) -> x.fit(n, asked));
        }
        e.range("fit(h, 0) of a new object", 0, 16, -1, Desks.NEW, (x, n) -> x.fit(n, 0));
    }

    private static void fitWithoutSuchMarks(Edges e) {
        // LOOK 0, ASK 200, AGE 0: all MARKS cry at it.
        Edges.Maker all = () -> {
            PretendDesk x = Desks.bank("box(pass;card;pin;)", "box(pass;card;pin;)", "box(pass;card;pin;text;)").make();
            x.worth(5, 20);
            x.worth(0, 20);
            x.keep(0, 0, false);
            return x;
        };
        for (int what = 0; what < 5; what++) {
            int asked = what;
            e.refused("fit(0, " + what + ")", -1, all, x -> x.fit(0, asked));
        }
        due(e, all.make(), 1, 0, 0, 0, 0, 1);
        PretendDesk x = all.make();
        x.worth(0, 19);
        due(e, x, 0, 0, 200, 0, 0, 0);
        x = all.make();
        x.keep(0, 1, false);
        due(e, x, 0, -1, -1, -1, -1, -1);
        due(e, x, 1, 0, 0, 0, 0, 1);
        x = all.make();
        for (int k = 1; k < 16; k++) {
            x.keep(0, 0, false);
        }
        due(e, x, 15, -1, -1, -1, -1, -1);
        due(e, x, 16, 0, 0, 0, 0, 16);
    }

    private static void fitOfAnotherWhat(Edges e) {
        for (int h : new int[] {0, 16}) {
            e.range("fit(" + h + ", what)", 0, 4, -1, Desks.RICH, (x, n) -> x.fit(h, n));
        }
        e.is("MARK a of RICH", Desks.RICH.make().fit(0, A) >= 0, true);
        e.is("MARK b of RICH", Desks.RICH.make().fit(0, B) >= 0, true);
    }
}
