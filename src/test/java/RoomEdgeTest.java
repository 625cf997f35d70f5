/** The edges of promises 23 to 25: differs, hides, late; of the ROOM. */
public final class RoomEdgeTest {
    public static void main(String[] args) {
        Edges.run("RoomEdgeTest", RoomEdgeTest::sentences);
    }

    static void sentences(Edges e) {
        e.of("Term 3", "ROOM: a PAGE DIFFERS for two PERSONS by FAR of what each opens.", RoomEdgeTest::differsByFar);
        e.of("Promise 23", "By how much a PAGE DIFFERS for two PERSONS.", RoomEdgeTest::differs);
        e.of("Promise 23", "NONE: there is none such (of any).", RoomEdgeTest::differsOfNone);
        e.of("Term 3", "HIDES on a DAY: the greatest of these of two LANDS.", RoomEdgeTest::greatestOfTwoLands);
        e.of("Promise 24", "By how much it HIDES.", RoomEdgeTest::hides);
        e.of("Promise 24", "NONE: there is none such (of either).", RoomEdgeTest::hidesOfNone);
        e.of("Term 3", "LATE: the first DAY, 1 .. 99, on which it is another tree than on DAY 0 (for a LAND).",
                RoomEdgeTest::firstDay);
        e.of("Promise 25", "LATE.", RoomEdgeTest::late);
        e.of("Promise 25", "NONE: on none,", RoomEdgeTest::lateOnNone);
        e.of("Promise 25", "or there is none such (of either).", RoomEdgeTest::lateOfNone);
    }

    private static void differsByFar(Edges e) {
        PretendDesk x = Desks.came("box(pin land 0;card land 1;)", "box land 3(" + "pin;".repeat(13) + ")", "box(pin;)").make();
        e.is("itself", x.differs(0, 0, 0, 0, 0), 0);
        e.is("another KIND", x.differs(0, 0, 0, 1, 0), 3);
        e.is("the other way round", x.differs(0, 1, 0, 0, 0), 3);
        e.is("one BOX less", x.differs(0, 0, 0, 2, 0), 2);
        e.is("all of 14", x.differs(1, 3, 0, 0, 0), 28);
        e.is("two empty ones", x.differs(1, 0, 0, 2, 99), 0);
        e.is("nothing told", x.differs(2, 0, 0, 3, 99), 0);
    }

    private static void differs(Edges e) {
        PretendDesk x = Desks.came("box(pin land 1 day 50;card day 99;)").make();
        int[][] due = {{0, 0, 1, 49, 0}, {0, 0, 1, 50, 2}, {1, 50, 0, 0, 2}, {1, 49, 1, 50, 2}, {0, 98, 0, 99, 2}, {0, 99, 3, 99, 0},
            {0, 0, 1, 99, 4}, {1, 50, 0, 99, 3}, {0, 99, 1, 50, 3}};
        for (int[] d : due) {
            e.is("differs(0, " + d[0] + ", " + d[1] + ", " + d[2] + ", " + d[3] + ")", x.differs(0, d[0], d[1], d[2], d[3]), d[4]);
        }
    }

    private static void differsOfNone(Edges e) {
        e.range("differs(page, 0, 0, 1, 0) of 5", 0, 4, -1, Desks.RICH, (x, n) -> x.differs(n, 0, 0, 1, 0));
        e.range("differs(page, 0, 0, 1, 0) of 10", 0, 9, -1, Desks.FULL, (x, n) -> x.differs(n, 0, 0, 1, 0));
        e.range("differs(0, land, 0, 1, 0)", 0, 3, -1, Desks.RICH, (x, n) -> x.differs(0, n, 0, 1, 0));
        e.range("differs(0, 0, day, 1, 0)", 0, 99, -1, Desks.RICH, (x, n) -> x.differs(0, 0, n, 1, 0));
        e.range("differs(0, 0, 0, other, 0)", 0, 3, -1, Desks.RICH, (x, n) -> x.differs(0, 0, 0, n, 0));
        e.range("differs(0, 0, 0, 1, its)", 0, 99, -1, Desks.RICH, (x, n) -> x.differs(0, 0, 0, 1, n));
        e.refused("differs(0, 0, 0, 1, 0) of none", -1, Desks.NEW, x -> x.differs(0, 0, 0, 1, 0));
    }

    private static void greatestOfTwoLands(Edges e) {
        for (int one = 0; one < 4; one++) {
            for (int two = one + 1; two < 4; two++) {
                // Those two have other BOXES of two sorts each, the others none.
                String text = "box(pin land " + one + "(pin;)card 3 land " + two + "(text;))";
                PretendDesk x = Desks.came(text).make();
                e.is("hides of LANDS " + one + " and " + two, x.hides(0, 0), 7);
                e.is("these two alone", x.differs(0, one, 0, two, 0), 7);
            }
        }
        PretendDesk x = Desks.came("box(pin;)", "box(pin land 3;)", "box(pin land 0;pin land 1;pin land 2;pin land 3;)",
                "box land 2(" + "pin;".repeat(13) + ")").make();
        int[] due = {0, 2, 0, 28};
        for (int page = 0; page < 4; page++) {
            e.is("hides(" + page + ", 0)", x.hides(page, 0), due[page]);
        }
    }

    private static void hides(Edges e) {
        PretendDesk x = Desks.came("box(pin land 1 day 1;card land 2 day 99(text;))").make();
        int[][] due = {{0, 0}, {1, 2}, {98, 2}, {99, 5}};
        for (int[] d : due) {
            e.is("hides(0, " + d[0] + ")", x.hides(0, d[0]), d[1]);
        }
    }

    private static void hidesOfNone(Edges e) {
        e.range("hides(page, 0) of 5", 0, 4, -1, Desks.RICH, (x, n) -> x.hides(n, 0));
        e.range("hides(page, 0) of 10", 0, 9, -1, Desks.FULL, (x, n) -> x.hides(n, 0));
        e.range("hides(0, day)", 0, 99, -1, Desks.RICH, (x, n) -> x.hides(0, n));
        e.refused("hides(0, 0) of none", -1, Desks.NEW, x -> x.hides(0, 0));
    }

    private static void firstDay(Edges e) {
        for (int day = 0; day <= 99; day++) {
            for (int land = 0; land < 4; land++) {
                PretendDesk x = Desks.came("box(pin day " + day + ";)", "box day " + day + ";",
                        "box(pin day 99;card land " + land + " day " + day + ";)").make();
                e.is("late of DAY " + day, x.late(0, land), day == 0 ? -1 : day);
                e.is("late of DAY " + day + ", empty before", x.late(1, land), day == 0 ? -1 : day);
                e.is("late for a LAND", x.late(2, land), day == 0 ? 99 : day);
                e.is("late for another LAND", x.late(2, (land + 1) % 4), 99);
            }
        }
        PretendDesk x = Desks.came("box day 5(pin day 3;)", "box day 3(pin day 5;)", "box(pin day 9;card day 8;)").make();
        e.is("what is in it comes with it", x.late(0, 0), 5);
        e.is("the one that it is in comes first", x.late(1, 0), 3);
        e.is("the first DAY of two", x.late(2, 0), 8);
    }

    private static void late(Edges e) {
        PretendDesk x = Desks.RICH.make();
        e.is("late(1, 0)", x.late(1, 0), 7);
        e.is("late(1, 3)", x.late(1, 3), 7);
        e.is("late(0, 2)", x.late(0, 2), -1);
        x = Desks.FULL.make();
        e.is("late(8, 3)", x.late(8, 3), 4);
    }

    private static void lateOnNone(Edges e) {
        PretendDesk x = Desks.came("box;", "box(pin land 1 day 7;)", "box land 2 day 99(pin day 3;)", "box day 0;").make();
        int[][] due = {{0, 0, -1}, {1, 0, -1}, {1, 1, 7}, {1, 2, -1}, {2, 1, -1}, {2, 2, 99}, {2, 3, -1}, {3, 0, -1}};
        for (int[] d : due) {
            e.is("late(" + d[0] + ", " + d[1] + ")", x.late(d[0], d[1]), d[2]);
        }
    }

    private static void lateOfNone(Edges e) {
        Edges.Maker late = Desks.came("box day 1;", "box day 2;");
        e.range("late(page, 0) of 2", 0, 1, -1, late, (x, n) -> x.late(n, 0));
        e.range("late(0, land)", 0, 3, -1, late, (x, n) -> x.late(0, n));
        e.refused("late(10, 0) of 10", -1, Desks.FULL, x -> x.late(10, 0));
        e.refused("late(5, 0) of 5", -1, Desks.RICH, x -> x.late(5, 0));
        e.refused("late(0, 0) of none", -1, Desks.NEW, x -> x.late(0, 0));
    }
}
