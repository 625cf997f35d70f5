/** Promises 23 to 25: differs, hides, late. */
public final class RoomTest {
    private static final Checks CHECKS = new Checks("RoomTest");

    public static void main(String[] args) {
        differs();
        hides();
        late();
        CHECKS.end();
    }

    private static void differs() {
        PretendDesk x = new PretendDesk();
        Checks.page(x, "box(form land 1(pass;)text land 2;link day 9;)");
        CHECKS.is("one person", x.differs(0, 1, 3, 1, 3), 0);
        CHECKS.is("two lands", x.differs(0, 0, 0, 1, 0), 4);
        CHECKS.is("two lands", x.differs(0, 2, 0, 0, 0), 2);
        CHECKS.is("two lands", x.differs(0, 1, 0, 2, 0), 5);
        CHECKS.is("two days", x.differs(0, 3, 8, 3, 9), 2);
        CHECKS.is("both", x.differs(0, 0, 9, 1, 8), 5);
        int[][] none = {{1, 0, 0, 0, 0}, {-1, 0, 0, 0, 0}, {0, 4, 0, 0, 0}, {0, -1, 0, 0, 0}, {0, 0, 100, 0, 0},
            {0, 0, -1, 0, 0}, {0, 0, 0, 4, 0}, {0, 0, 0, -1, 0}, {0, 0, 0, 0, 100}, {0, 0, 0, 0, -1}};
        for (int[] n : none) {
            CHECKS.is("differs of none", x.differs(n[0], n[1], n[2], n[3], n[4]), -1);
        }
        Checks.page(x, "box land 0(pass;pin;)");
        CHECKS.is("an empty page", x.differs(1, 0, 0, 1, 0), 6);
        CHECKS.is("two empty pages", x.differs(1, 2, 0, 1, 0), 0);
    }

    private static void hides() {
        PretendDesk x = new PretendDesk();
        Checks.page(x, "box(form land 1(pass;)text land 2 day 5;link day 9;)");
        CHECKS.is("DAY 0", x.hides(0, 0), 4);
        CHECKS.is("DAY 5", x.hides(0, 5), 5);
        CHECKS.is("DAY 99", x.hides(0, 99), 5);
        Checks.page(x, "box(pin;link day 9;)");
        CHECKS.is("nothing", x.hides(1, 8), 0);
        Checks.page(x, "box(pass land 2;pass land 3;pass land 3;pass land 3;)");
        CHECKS.is("the greatest", x.hides(2, 0), 6);
        Checks.page(x, "box(pass land 0;card land 1;)");
        CHECKS.is("the first two", x.hides(3, 0), 3);
        Checks.page(x, "box(pass land 0;pass land 1;pass land 2;pass land 3;)");
        CHECKS.is("each has the same", x.hides(4, 0), 0);
        CHECKS.is("page 5", x.hides(5, 0), -1);
        CHECKS.is("page -1", x.hides(-1, 0), -1);
        CHECKS.is("day 100", x.hides(0, 100), -1);
        CHECKS.is("day -1", x.hides(0, -1), -1);
    }

    private static void late() {
        PretendDesk x = new PretendDesk();
        Checks.page(x, "box(form land 1 day 7(pass day 3;)text land 2 day 5(pin day 99;)link land 3 day 99;)");
        CHECKS.is("LAND 0", x.late(0, 0), -1);
        CHECKS.is("LAND 1", x.late(0, 1), 7);
        CHECKS.is("LAND 2", x.late(0, 2), 5);
        CHECKS.is("LAND 3", x.late(0, 3), 99);
        Checks.page(x, "box day 1;");
        CHECKS.is("DAY 1", x.late(1, 0), 1);
        Checks.page(x, "box;");
        CHECKS.is("on none", x.late(2, 0), -1);
        CHECKS.is("page 3", x.late(3, 0), -1);
        CHECKS.is("page -1", x.late(-1, 0), -1);
        CHECKS.is("land 4", x.late(0, 4), -1);
        CHECKS.is("land -1", x.late(0, -1), -1);
    }
}
