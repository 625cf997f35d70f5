/** The edges of promises 49 to 51: picture, unlike, near; of PICTURES. */
public final class PictureEdgeTest {
    private static final int FULL = (1 << 25) - 1;

    public static void main(String[] args) {
        Edges.run("PictureEdgeTest", PictureEdgeTest::sentences);
    }

    static void sentences(Edges e) {
        e.of("Term 7", "PICTURES of HOUSES and PAGES that came: 5 rows of 5 squares (bits 0 .. 24, row by row; none is full at first).",
                PictureEdgeTest::fiveByFive);
        e.of("Promise 49", "The PICTURE of a HOUSE, or (came) of a PAGE, from now on: true;", PictureEdgeTest::picture);
        e.of("Promise 49", "false: there is none such, or other bits.", PictureEdgeTest::pictureOfNone);
        e.of("Term 7", "UNLIKE of a PAGE's and a HOUSE's: the fewest squares that differ,", PictureEdgeTest::fewestThatDiffer);
        e.of("Term 7", "when the PAGE's is turned by 0 to 3 quarters (to the right: the square of row r, column c comes to row c, "
                + "column 4 - r),", PictureEdgeTest::turned);
        e.of("Term 7", "then moved by -1 .. 1 rows and columns", PictureEdgeTest::moved);
        e.of("Term 7", "(what falls out is gone, what comes in is empty).", PictureEdgeTest::fallsOut);
        e.of("Promise 50", "UNLIKE.", PictureEdgeTest::unlike);
        e.of("Promise 50", "NONE: there is none such (of either).", PictureEdgeTest::unlikeOfNone);
        e.of("Term 7", "NEAR: the HOUSE of the least, of several the least.", PictureEdgeTest::ofTheLeast);
        e.of("Promise 51", "NEAR.", PictureEdgeTest::near);
        e.of("Promise 51", "NONE: there is no such PAGE, or no HOUSE.", PictureEdgeTest::nearOfNone);
    }

    private static int square(int row, int column) {
        return 1 << 5 * row + column;
    }

    private static int unlike(int its, int owners) {
        PretendDesk x = Desks.bank("box;", "box;").make();
        x.picture(true, 0, its);
        x.picture(false, 0, owners);
        return x.unlike(0, 0);
    }

    private static void fiveByFive(Edges e) {
        e.is("none is full at first", Desks.bank("box;", "box;").make().unlike(0, 0), 0);
        PretendDesk x = Desks.bank("box;", "box;").make();
        x.picture(false, 0, FULL);
        e.is("none of the PAGE's is", x.unlike(0, 0), 25);
        x.picture(true, 0, FULL);
        e.is("all are", x.unlike(0, 0), 0);
        x = Desks.bank("box;", "box;").make();
        x.picture(true, 0, FULL);
        e.is("none of the HOUSE's is: 16 stay when all are moved", x.unlike(0, 0), 16);
        for (int bit = 0; bit < 25; bit++) {
            x = Desks.bank("box;", "box;").make();
            e.is("bit " + bit + " of the HOUSE's", x.picture(false, 0, 1 << bit), true);
            e.is("one square, unlike", x.unlike(0, 0), 1);
            e.is("bit " + bit + " of the PAGE's", x.picture(true, 0, 1 << bit), true);
            e.is("the same, unlike", x.unlike(0, 0), 0);
        }
    }

    private static void picture(Edges e) {
        PretendDesk x = Desks.FULL.make();
        for (int page = 0; page < 10; page++) {
            e.is("picture of PAGE " + page, x.picture(true, page, FULL), true);
            for (int house = 0; house < 5; house++) {
                e.is("unlike(" + page + ", " + house + ")", x.unlike(page, house), 16);
            }
        }
        for (int house = 0; house < 5; house++) {
            e.is("picture of HOUSE " + house, x.picture(false, house, FULL), true);
            e.is("unlike(9, " + house + ")", x.unlike(9, house), 0);
            e.is("empty again", x.picture(false, house, 0), true);
            e.is("unlike(9, " + house + ")", x.unlike(9, house), 16);
        }
    }

    private static void pictureOfNone(Edges e) {
        e.range("picture(true, page, 1) of 5", 0, 4, 0, Desks.RICH, (x, n) -> Edges.bit(x.picture(true, n, 1)));
        e.range("picture(false, house, 1) of 3", 0, 2, 0, Desks.RICH, (x, n) -> Edges.bit(x.picture(false, n, 1)));
        e.range("picture(true, page, 1) of 10", 0, 9, 0, Desks.FULL, (x, n) -> Edges.bit(x.picture(true, n, 1)));
        e.range("picture(false, house, 1) of 5", 0, 4, 0, Desks.FULL, (x, n) -> Edges.bit(x.picture(false, n, 1)));
        e.range("picture(true, 0, squares)", 0, FULL, 0, Desks.RICH, (x, n) -> Edges.bit(x.picture(true, 0, n)));
        e.range("picture(false, 0, squares)", 0, FULL, 0, Desks.RICH, (x, n) -> Edges.bit(x.picture(false, 0, n)));
        e.refused("picture(true, 0, 1) of none", 0, Desks.NEW, x -> Edges.bit(x.picture(true, 0, 1)));
        e.refused("picture(false, 0, 1) of none", 0, Desks.came("box;"), x -> Edges.bit(x.picture(false, 0, 1)));
    }

    // ---- UNLIKE

    private static void fewestThatDiffer(Edges e) {
        e.is("two empty ones", unlike(0, 0), 0);
        e.is("two full ones", unlike(FULL, FULL), 0);
        e.is("an empty one and a full one", unlike(0, FULL), 25);
        e.is("full but for the middle", unlike(FULL & ~square(2, 2), FULL), 1);
        e.is("full but for a corner", unlike(FULL & ~square(0, 0), FULL), 1);
        e.is("full but for two corners", unlike(FULL & ~square(0, 0), FULL & ~square(4, 4)), 0);
        // Each one square against each one square, and some more, as the plain Model has it.
        PretendDesk x = Desks.bank("box;", "box;").make();
        Model due = new Model();
        Checks.tell(due, "bank");
        due.house();
        Checks.tell(due, "box;");
        due.page();
        int seed = 12345;
        for (int k = 0; k < 625 + 2000; k++) {
            seed = seed * 1103515245 + 12345;
            int its = k < 625 ? 1 << k / 25 : seed >>> 7 & FULL;
            seed = seed * 1103515245 + 12345;
            int owners = k < 625 ? 1 << k % 25 : k % 3 == 0 ? its << 1 & FULL : seed >>> 7 & its;
            if (k % 100 == 0) {
                x = Desks.bank("box;", "box;").make();
            }
            x.picture(true, 0, its);
            x.picture(false, 0, owners);
            due.picture(true, 0, its);
            due.picture(false, 0, owners);
            e.is("unlike of " + its + " and " + owners, x.unlike(0, 0), due.unlike(0, 0));
        }
    }

    private static void turned(Edges e) {
        // A shape that is like itself by no turn and no move, as it touches three sides.
        int[][] shape = {{0, 0}, {0, 1}, {0, 2}, {0, 3}, {0, 4}, {1, 0}, {2, 0}, {3, 0}, {4, 0}, {1, 4}, {2, 2}};
        int its = 0;
        int[] owners = new int[4];
        for (int[] at : shape) {
            int row = at[0];
            int column = at[1];
            its |= square(row, column);
            for (int quarters = 0; quarters < 4; quarters++) {
                owners[quarters] |= square(row, column);
                int before = row;
                row = column;
                column = 4 - before;
            }
        }
        for (int quarters = 0; quarters < 4; quarters++) {
            e.is(quarters + " quarters to the right", unlike(its, owners[quarters]), 0);
        }
        int mirrored = 0;
        for (int[] at : shape) {
            mirrored |= square(at[0], 4 - at[1]);
        }
        e.is("a mirror is no turn", unlike(its, mirrored) > 0, true);
        e.is("the square of row 0, column 1 comes to row 1, column 4", unlike(square(0, 1) | FULL & ~31, square(1, 4) | FULL & ~0x1084210), 0);
    }

    private static void moved(Edges e) {
        int middle = square(2, 2) | square(2, 1);
        for (int down = -2; down <= 2; down++) {
            for (int right = -2; right <= 2; right++) {
                int to = right == -2 ? 0 : square(2 + down, 2 + right) | square(2 + down, 1 + right);
                boolean near = Math.abs(down) <= 1 && Math.abs(right) <= 1;
                if (right > -2) {
                    e.is("moved by " + down + ", " + right, unlike(middle, to) == 0, near || isTurnNear(down, right));
                }
            }
        }
        e.is("by one row", unlike(31 << 5, 31 << 10), 0);
        e.is("by two rows, a turn of a half and one more", unlike(31 << 5, 31 << 15), 0);
        e.is("by two rows from a side: moved by one", unlike(31, 31 << 10), 5);
        e.is("by one row and one column", unlike(square(0, 0), square(1, 1)), 0);
        e.is("by two columns", unlike(square(2, 2), square(2, 4)), 2);
        e.is("by two rows", unlike(square(2, 2), square(0, 2)), 2);
    }

    /** The two squares turned by a half are (2, 2) and (2, 3). */
    private static boolean isTurnNear(int down, int right) {
        return Math.abs(down) <= 1 && right - 1 >= -1 && right - 1 <= 1;
    }

    private static void fallsOut(Edges e) {
        e.is("a side falls out", unlike(31, 0), 0);
        e.is("another side falls out", unlike(31 << 20, 0), 0);
        e.is("a column falls out", unlike(0x108421, 0), 0);
        e.is("a corner's row and column fall out", unlike(31 | 0x108421, 0), 0);
        e.is("two sides that are opposite: one stays but for a corner", unlike(31 | 31 << 20, 0), 4);
        e.is("what comes in is empty", unlike(FULL, FULL & ~31), 0);
        e.is("a row and a column come in", unlike(FULL, FULL & ~31 & ~0x108421), 0);
        e.is("it comes not in at the other side", unlike(31, 31 << 20), 0);
        e.is("nor with more that stays", unlike(31 | square(2, 2), square(1, 2) | 31 << 20), 2);
        e.is("the HOUSE's stays where it is", unlike(0, 31), 5);
    }

    private static void unlike(Edges e) {
        PretendDesk x = Desks.RICH.make();
        int[][] due = {{0, 0, 1}, {0, 1, 3}, {0, 2, 0}, {1, 0, 4}, {2, 0, 5}, {4, 1, 3}};
        for (int[] d : due) {
            e.is("unlike(" + d[0] + ", " + d[1] + ")", x.unlike(d[0], d[1]), d[2]);
        }
    }

    private static void unlikeOfNone(Edges e) {
        e.range("unlike(page, 0) of 5", 0, 4, -1, Desks.RICH, (x, n) -> x.unlike(n, 0));
        e.range("unlike(0, house) of 3", 0, 2, -1, Desks.RICH, (x, n) -> x.unlike(0, n));
        e.range("unlike(page, 4) of 10", 0, 9, -1, Desks.FULL, (x, n) -> x.unlike(n, 4));
        e.range("unlike(9, house) of 5", 0, 4, -1, Desks.FULL, (x, n) -> x.unlike(9, n));
        e.refused("unlike(0, 0) without a HOUSE", -1, Desks.came("box;"), x -> x.unlike(0, 0));
        e.refused("unlike(0, 0) of none", -1, Desks.NEW, x -> x.unlike(0, 0));
    }

    // ---- NEAR

    private static void ofTheLeast(Edges e) {
        PretendDesk x = Desks.FULL.make();
        x.picture(true, 0, square(2, 2));
        for (int house = 0; house < 5; house++) {
            x.picture(false, house, FULL);
        }
        e.is("of five that are the same", x.near(0), 0);
        for (int house = 4; house >= 0; house--) {
            x.picture(false, house, square(2, 2) | square(0, 0));
            e.is("the least from " + house + " on", x.near(0), house);
        }
        x.picture(false, 3, square(1, 2));
        e.is("a nearer one", x.near(0), 3);
        x.picture(false, 4, square(3, 3));
        e.is("one as near behind it", x.near(0), 3);
        x.picture(false, 1, square(2, 2));
        e.is("one as near before it", x.near(0), 1);
    }

    private static void near(Edges e) {
        PretendDesk x = Desks.FULL.make();
        for (int house = 0; house < 5; house++) {
            x.picture(false, house, FULL & ~((1 << 5 * house) - 1));
            for (int page = 2 * house; page < 2 * house + 2; page++) {
                x.picture(true, page, FULL & ~((1 << 5 * house) - 1));
            }
        }
        int[] due = {0, 0, 0, 0, 1, 1, 2, 2, 3, 3};
        for (int page = 0; page < 10; page++) {
            int near = x.near(page);
            e.is("near(" + page + "), UNLIKE of it", x.unlike(page, near), 0);
            e.is("near(" + page + ")", near, page < 4 ? page / 2 : due[page] + 1);
        }
    }

    private static void nearOfNone(Edges e) {
        e.range("near(page) of 5", 0, 4, -1, Desks.RICH, (x, n) -> x.near(n));
        e.range("near(page) of 10", 0, 9, -1, Desks.FULL, (x, n) -> x.near(n));
        e.refused("near(0) without a HOUSE", -1, Desks.came("box;"), x -> x.near(0));
        e.refused("near(0) of none", -1, Desks.NEW, x -> x.near(0));
        PretendDesk x = Desks.came("box;").make();
        Checks.house(x, "a");
        e.is("near(0) with one HOUSE", x.near(0), 0);
    }
}
