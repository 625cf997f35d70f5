/** Promises 49 to 51: picture, unlike, near. */
public final class PictureTest {
    private static final Checks CHECKS = new Checks("PictureTest");
    private static final int FULL = (1 << 25) - 1;

    public static void main(String[] args) {
        picture();
        unlike();
        near();
        CHECKS.end();
    }

    private static void picture() {
        PretendDesk x = new PretendDesk();
        CHECKS.is("no page", x.picture(true, 0, 0), false);
        CHECKS.is("no house", x.picture(false, 0, 0), false);
        Checks.house(x, "a");
        CHECKS.is("still no page", x.picture(true, 0, 1), false);
        CHECKS.is("a house", x.picture(false, 0, FULL), true);
        CHECKS.is("house 1", x.picture(false, 1, 0), false);
        CHECKS.is("house -1", x.picture(false, -1, 0), false);
        Checks.page(x, "box;");
        CHECKS.is("none is full at first", x.unlike(0, 0), 25);
        CHECKS.is("a page", x.picture(true, 0, FULL), true);
        CHECKS.is("page 1", x.picture(true, 1, 0), false);
        CHECKS.is("page -1", x.picture(true, -1, 0), false);
        CHECKS.is("both are full", x.unlike(0, 0), 0);
        CHECKS.is("empty", x.picture(true, 0, 0), true);
        CHECKS.is("empty", x.unlike(0, 0), 25);
        CHECKS.is("full again", x.picture(true, 0, FULL), true);
        CHECKS.is("a bit too many", x.picture(true, 0, FULL + 1), false);
        CHECKS.is("bits below 0", x.picture(true, 0, -1), false);
        CHECKS.is("it stays", x.unlike(0, 0), 0);
    }

    private static int bit(int row, int column) {
        return 1 << row * 5 + column;
    }

    private static int unlike(int pages, int houses) {
        PretendDesk x = new PretendDesk();
        Checks.house(x, "a");
        Checks.page(x, "box;");
        x.picture(true, 0, pages);
        x.picture(false, 0, houses);
        return x.unlike(0, 0);
    }

    private static void unlike() {
        // A hook that is no other way round like itself.
        int hook = bit(1, 1) | bit(1, 2) | bit(1, 3) | bit(2, 1);
        CHECKS.is("the same", unlike(hook, hook), 0);
        CHECKS.is("a quarter", unlike(hook, bit(1, 3) | bit(2, 3) | bit(3, 3) | bit(1, 2)), 0);
        CHECKS.is("a half", unlike(hook, bit(3, 3) | bit(3, 2) | bit(3, 1) | bit(2, 3)), 0);
        CHECKS.is("three quarters", unlike(hook, bit(3, 1) | bit(2, 1) | bit(1, 1) | bit(3, 2)), 0);
        CHECKS.is("a mirror", unlike(hook, bit(1, 1) | bit(1, 2) | bit(1, 3) | bit(2, 3)), 2);
        CHECKS.is("moved by one", unlike(hook, bit(2, 2) | bit(2, 3) | bit(2, 4) | bit(3, 2)), 0);
        CHECKS.is("moved by one", unlike(hook, bit(0, 0) | bit(0, 1) | bit(0, 2) | bit(1, 0)), 0);
        CHECKS.is("turned and moved", unlike(hook, bit(0, 3) | bit(1, 3) | bit(2, 3) | bit(0, 2)), 0);
        int corner = bit(0, 0);
        CHECKS.is("a corner is turned to each", unlike(corner, bit(0, 4)), 0);
        CHECKS.is("a corner is turned to each", unlike(corner, bit(4, 4)), 0);
        CHECKS.is("a corner is moved inwards", unlike(corner, bit(1, 1)), 0);
        CHECKS.is("a corner is moved by one alone", unlike(corner, bit(2, 2)), 1);
        CHECKS.is("what falls out is gone", unlike(corner, 0), 0);
        CHECKS.is("what comes in is empty", unlike(FULL, FULL & ~0b11111), 0);
        CHECKS.is("only the PAGE's is moved", unlike(0, corner), 1);
        CHECKS.is("a row", unlike(0b11111, bit(0, 1) | bit(1, 1) | bit(2, 1) | bit(3, 1) | bit(4, 1)), 0);
        CHECKS.is("two rows in", unlike(0b11111, 0b11111 << 10), 5);
        PretendDesk x = new PretendDesk();
        CHECKS.is("no page", x.unlike(0, 0), -1);
        Checks.page(x, "box;");
        CHECKS.is("no house", x.unlike(0, 0), -1);
        Checks.house(x, "a");
        CHECKS.is("at first", x.unlike(0, 0), 0);
        CHECKS.is("page 1", x.unlike(1, 0), -1);
        CHECKS.is("page -1", x.unlike(-1, 0), -1);
        CHECKS.is("house 1", x.unlike(0, 1), -1);
        CHECKS.is("house -1", x.unlike(0, -1), -1);
    }

    private static void near() {
        PretendDesk x = new PretendDesk();
        CHECKS.is("no page", x.near(0), -1);
        Checks.page(x, "box;");
        CHECKS.is("no house", x.near(0), -1);
        x.picture(true, 0, 0b11111);
        Checks.house(x, "a");
        CHECKS.is("one house", x.near(0), 0);
        Checks.house(x, "b");
        CHECKS.is("of several the least", x.near(0), 0);
        x.picture(false, 1, 0b01111);
        CHECKS.is("5 or less: moved out it is none", x.near(0), 0);
        x.picture(false, 0, bit(2, 2));
        CHECKS.is("0b01111 is a row moved", x.near(0), 1);
        Checks.house(x, "c");
        x.picture(false, 2, 0b11110 << 20);
        CHECKS.is("of several the least", x.near(0), 1);
        x.picture(false, 1, bit(2, 2));
        CHECKS.is("the last one", x.near(0), 2);
        CHECKS.is("page 1", x.near(1), -1);
        CHECKS.is("page -1", x.near(-1), -1);
    }
}
