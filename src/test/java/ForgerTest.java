/** Promises 28 to 30: change, pass, met. */
public final class ForgerTest {
    private static final Checks CHECKS = new Checks("ForgerTest");

    public static void main(String[] args) {
        change();
        pass();
        takenOut();
        colours();
        waits();
        leastSet();
        met();
        CHECKS.end();
    }

    private static void change() {
        PretendDesk x = new PretendDesk();
        CHECKS.is("no page", x.change(0, 2, 0, 1, 1), -1);
        Checks.page(x, "box(pin;)");
        CHECKS.is("page 1", x.change(1, 2, 0, 1, 1), -1);
        CHECKS.is("page -1", x.change(-1, 2, 0, 1, 1), -1);
        CHECKS.is("sort 3", x.change(0, 3, 0, 1, 1), -1);
        CHECKS.is("sort -1", x.change(0, -1, 0, 1, 1), -1);
        CHECKS.is("box 2", x.change(0, 0, 2, 1, 1), -1);
        CHECKS.is("box -1", x.change(0, 0, -1, 1, 1), -1);
        CHECKS.is("box 2", x.change(0, 1, 2, 1, 1), -1);
        CHECKS.is("box -1", x.change(0, 1, -1, 1, 1), -1);
        CHECKS.is("colour 10", x.change(0, 1, 1, 10, 1), -1);
        CHECKS.is("colour -1", x.change(0, 1, 1, -1, 1), -1);
        CHECKS.is("100 days", x.change(0, 2, 0, 100, 1), -1);
        CHECKS.is("-1 days", x.change(0, 2, 0, -1, 1), -1);
        CHECKS.is("price 0", x.change(0, 2, 0, 1, 0), -1);
        CHECKS.is("price 100", x.change(0, 2, 0, 1, 100), -1);
        CHECKS.is("none is there", x.count(10), 0);
        CHECKS.is("n counts for nothing", x.change(0, 0, 1, -77, 1), 0);
        CHECKS.is("box counts for nothing", x.change(0, 2, -77, 99, 99), 1);
        CHECKS.is("colour 9", x.change(0, 1, 1, 9, 1), 2);
        CHECKS.is("colour 0", x.change(0, 1, 0, 0, 1), 3);
        CHECKS.is("0 days", x.change(0, 2, 0, 0, 1), 4);
        CHECKS.is("a box twice", x.change(0, 0, 1, 0, 1), 5);
        CHECKS.is("it has 6", x.change(0, 2, 0, 1, 1), -1);
        CHECKS.is("count(10)", x.count(10), 6);
        Checks.page(x, "box;");
        CHECKS.is("another page", x.change(1, 2, 0, 1, 1), 0);
        CHECKS.is("count(11)", x.count(11), 1);
    }

    /** Whatever is done with it, the page is as before. */
    private static void due(PretendDesk x, int k, int w, int price, int set, int say) {
        CHECKS.is("price with " + k + ", " + w, x.pass(0, 0, k, w, 0), price);
        CHECKS.is("set with " + k + ", " + w, x.pass(0, 0, k, w, 1), set);
        CHECKS.is("say with " + k + ", " + w, x.pass(0, 0, k, w, 2), say);
    }

    /** House "bank" and page 0, which cries: LOOK 2, ASK 50. */
    private static PretendDesk forger() {
        PretendDesk x = new PretendDesk();
        Checks.house(x, "bank");
        Checks.own(x, 0, "box(logo;pass;)");
        Checks.page(x, "box(logo;pass;link;)");
        return x;
    }

    private static void pass() {
        PretendDesk x = forger();
        due(x, 99, 0, -1, -1, -1);
        x.change(0, 0, 2, 0, 7);
        due(x, 99, 0, 7, 1, 1);
        due(x, 3, 0, 7, 1, 1);
        due(x, 2, 0, -1, -1, -1);
        due(x, 99, 1, -1, -1, -1);
        x.change(0, 2, 0, 31, 20);
        due(x, 99, 1, 20, 2, 1);
        due(x, 2, 50, 20, 2, 1);
        due(x, 1, 50, -1, -1, -1);
        due(x, 2, 51, -1, -1, -1);
        x.change(0, 0, 3, 0, 1);
        due(x, 1, 50, 21, 6, 1);
        due(x, 0, 50, 21, 6, 1);
        x.marks(60, 0, 0);
        due(x, 99, 0, 20, 2, 1);
        Checks.name(x, 0, "bank");
        due(x, 2, 50, 0, 0, 1);
        due(x, 1, 50, 1, 4, 1);
        CHECKS.is("the page is as before", x.boxes(0, 0, 0), 4);
        int[][] none = {{1, 0, 9, 0, 0}, {-1, 0, 9, 0, 0}, {0, 100, 9, 0, 0}, {0, -1, 9, 0, 0}, {0, 0, 100, 0, 0},
            {0, 0, -1, 0, 0}, {0, 0, 9, 1000, 0}, {0, 0, 9, -1, 0}, {0, 0, 9, 0, 3}, {0, 0, 9, 0, -1}};
        for (int[] n : none) {
            CHECKS.is("pass of none", x.pass(n[0], n[1], n[2], n[3], n[4]), -1);
        }
        x.worth(2, 99);
        x.worth(5, 99);
        x.worth(7, 99);
        x.worth(0, 99);
        CHECKS.is("w 396", x.pass(0, 0, 99, 396, 0), 0);
        CHECKS.is("w 397", x.pass(0, 0, 99, 397, 0), -1);
        CHECKS.is("w 999", x.pass(0, 0, 99, 999, 0), -1);
        Checks.page(x, "box(link;link;link;link;link;link;link;link;link;link;)");
        Checks.name(x, 1, "bank");
        CHECKS.is("w 999", x.pass(1, 0, 99, 999, 0), 0);
        CHECKS.is("w 999", x.met(1, 0, 99, 999), -1);
        Checks.page(x, "box(logo;pass;link land 0;text land 1;)");
        CHECKS.is("opened by LAND 0", x.pass(2, 31, 2, 0, 0), 0);
        CHECKS.is("opened by LAND 0", x.pass(2, 31, 1, 0, 0), -1);
        x = new PretendDesk();
        Checks.page(x, "box;");
        due(x, 99, 0, -1, -1, -1);
        Checks.house(x, "a");
        due(x, 99, 0, -1, -1, -1);
    }

    /** What is taken out hides nothing, and what is in it goes to that which it was in. */
    private static void takenOut() {
        PretendDesk x = new PretendDesk();
        Checks.house(x, "bank");
        Checks.own(x, 0, "box(pass;pin;text;)");
        Checks.page(x, "box(form land 2 day 9(pass;pin;)text;)");
        due(x, 0, 0, -1, -1, -1);
        x.change(0, 0, 1, 0, 3);
        Checks.name(x, 0, "bank");
        due(x, 0, 0, 3, 1, 1);
        due(x, 0, 120, 3, 1, 1);
        due(x, 4, 0, 0, 0, 0);
        x.change(0, 0, 0, 0, 4);
        due(x, 1, 0, 3, 1, 1);
        x.marks(0, 0, 0);
        Checks.page(x, "card land 3(pass;pin;text;)");
        x.change(1, 0, 0, 0, 2);
        CHECKS.is("the first BOX, a row is left", x.pass(1, 0, 2, 0, 0), 2);
        CHECKS.is("the first BOX, a row is left", x.pass(1, 0, 1, 0, 0), -1);
    }

    private static void colours() {
        PretendDesk x = new PretendDesk();
        Checks.house(x, "bank");
        Checks.own(x, 0, "box(pass 4;)");
        Checks.page(x, "box(pass 1;)");
        Checks.name(x, 0, "bank");
        x.change(0, 1, 1, 4, 1);
        due(x, 0, 0, 1, 1, 1);
        x.change(0, 1, 1, 7, 1);
        due(x, 0, 0, 1, 1, 1);
        x.change(0, 1, 0, 3, 1);
        x.marks(0, 0, 0);
        CHECKS.is("two wrong COLOURS, alone and together", x.met(0, 0, 9, 0), -1);
        Checks.name(x, 0, "other");
        CHECKS.is("two wrong COLOURS, alone and together", x.met(0, 0, 9, 0), 2);
        CHECKS.is("one of them", x.met(0, 0, 1, 0), 1);
        CHECKS.is("the right one", x.met(0, 0, 0, 0), 0);
    }

    private static void waits() {
        PretendDesk x = forger();
        x.change(0, 2, 0, 20, 5);
        due(x, 9, 50, -1, -1, -1);
        x.change(0, 2, 0, 10, 5);
        due(x, 9, 50, -1, -1, -1);
        x.change(0, 2, 0, 11, 6);
        due(x, 9, 50, 11, 5, 1);
        x.stands(0, 60, 0);
        CHECKS.is("before it stands its AGE is 0", x.pass(0, 10, 9, 50, 0), 11);
        CHECKS.is("on that day", x.pass(0, 60, 9, 50, 0), 11);
        CHECKS.is("a day later", x.pass(0, 61, 9, 50, 0), 10);
        CHECKS.is("a day later", x.pass(0, 61, 9, 50, 1), 3);
        CHECKS.is("31 days later", x.pass(0, 91, 9, 50, 0), 0);
        Checks.page(x, "box(logo;pass;link day 1;)");
        x.change(1, 2, 0, 40, 1);
        CHECKS.is("AGE alone grows", x.pass(1, 0, 0, 0, 0), 1);
        CHECKS.is("AGE alone grows", x.pass(1, 1, 0, 0, 0), -1);
    }

    private static void leastSet() {
        PretendDesk x = forger();
        x.change(0, 2, 0, 10, 2);
        x.change(0, 2, 0, 21, 2);
        x.change(0, 2, 0, 31, 4);
        due(x, 9, 50, 4, 4, 1);
        x.change(0, 2, 0, 40, 4);
        due(x, 9, 50, 4, 4, 1);
        x.change(0, 2, 0, 99, 3);
        due(x, 9, 50, 3, 16, 1);
    }

    private static void met() {
        PretendDesk x = forger();
        CHECKS.is("it passes by a below 2", x.met(0, 0, 9, 0), 2);
        CHECKS.is("none looks so", x.met(0, 0, 1, 0), 0);
        CHECKS.is("none asks so", x.met(0, 0, 9, 51), 0);
        x.change(0, 1, 0, 9, 1);
        x.change(0, 1, 1, 9, 1);
        CHECKS.is("by two COLOURS", x.met(0, 0, 9, 0), 4);
        CHECKS.is("k is 3", x.met(0, 0, 3, 0), 3);
        x.marks(60, 40, 30);
        CHECKS.is("the MARK told counts for nothing", x.met(0, 0, 9, 0), 4);
        CHECKS.is("b counts", x.met(0, 31, 9, 0), -1);
        x.marks(0, 51, 30);
        CHECKS.is("b counts", x.met(0, 0, 9, 0), -1);
        x.marks(0, 50, 30);
        x.change(0, 2, 0, 31, 99);
        CHECKS.is("it waits: there is one with each", x.met(0, 0, 9, 0), -1);
        CHECKS.is("page 1", x.met(1, 0, 9, 0), -1);
        CHECKS.is("page -1", x.met(-1, 0, 9, 0), -1);
        CHECKS.is("day 100", x.met(0, 100, 9, 0), -1);
        CHECKS.is("day -1", x.met(0, -1, 9, 0), -1);
        CHECKS.is("k 100", x.met(0, 0, 100, 0), -1);
        CHECKS.is("k -1", x.met(0, 0, -1, 0), -1);
        CHECKS.is("w 1000", x.met(0, 0, 9, 1000), -1);
        CHECKS.is("w -1", x.met(0, 0, 9, -1), -1);
        x = new PretendDesk();
        Checks.page(x, "pin;");
        CHECKS.is("no houses: none is there with 0", x.met(0, 0, 9, 0), 0);
    }
}
