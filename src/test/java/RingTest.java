/** Promises 31 to 34: odds, ring, sketch, leaves. */
public final class RingTest {
    private static final Checks CHECKS = new Checks("RingTest");

    public static void main(String[] args) {
        odds();
        ring();
        sketch();
        leaves();
        CHECKS.end();
    }

    private static PretendDesk pieces(int... pieces) {
        PretendDesk x = new PretendDesk();
        for (int k = 0; k < pieces.length; k++) {
            Checks.page(x, "box;");
            x.stands(k, 0, pieces[k]);
        }
        return x;
    }

    private static void odds() {
        PretendDesk x = pieces(0b111, 0b1110, 0, 0xFFFFF, 0x3FF, 0x1F, 0x3E0);
        int[][] due = {{0, 1, 52, 1140}, {1, 0, 52, 1140}, {0, 2, 1, 1}, {2, 0, 1140, 1140}, {0, 3, 1, 1},
            {3, 0, 1140, 1140}, {3, 4, 184756, 184756}, {4, 3, 1, 1}, {5, 6, 15504, 15504}, {4, 5, 252, 15504},
            {5, 4, 3003, 184756}, {0, 5, 136, 15504}, {4, 0, 120, 1140}};
        for (int[] d : due) {
            CHECKS.is("odds(" + d[0] + ", " + d[1] + ", 0)", x.odds(d[0], d[1], 0), d[2]);
            CHECKS.is("odds(" + d[0] + ", " + d[1] + ", 1)", x.odds(d[0], d[1], 1), d[3]);
        }
        CHECKS.is("they are one", x.odds(0, 0, 0), -1);
        CHECKS.is("what 2", x.odds(0, 1, 2), -1);
        CHECKS.is("what -1", x.odds(0, 1, -1), -1);
        CHECKS.is("page 7", x.odds(0, 7, 0), -1);
        CHECKS.is("page 7", x.odds(7, 0, 0), -1);
        CHECKS.is("page -1", x.odds(0, -1, 0), -1);
        CHECKS.is("page -1", x.odds(-1, 0, 0), -1);
    }

    private static void ring() {
        PretendDesk x = pieces(0b111, 0b1110, 0, 0);
        CHECKS.is("52 * 21 is 1092", x.ring(0, 21), 0b11);
        CHECKS.is("52 * 22 is 1144", x.ring(0, 22), 0b1);
        CHECKS.is("alone", x.ring(2, 1), 0b100);
        CHECKS.is("one that shares nothing", x.ring(3, 1), 0b1000);
        CHECKS.is("page 4", x.ring(4, 1), -1);
        CHECKS.is("page -1", x.ring(-1, 1), -1);
        CHECKS.is("q 0", x.ring(0, 0), -1);
        CHECKS.is("q 10000", x.ring(0, 10000), -1);
        CHECKS.is("q 9999", x.ring(0, 9999), 1);
        // 10 of 10 shared: one way of 184756, and 184756 / 9999 is 18.
        x = pieces(0x3FF, 0x3FF, 0xFFFFF);
        CHECKS.is("beyond odds", x.ring(0, 9999), 0b11);
        CHECKS.is("all ways: not beyond", x.ring(2, 2), 0b100);
        CHECKS.is("just all ways", x.ring(2, 1), 0b111);
        // A row of pages, each of one hand with the next one alone.
        int[] row = new int[10];
        for (int k = 0; k < 10; k++) {
            row[k] = 0b111 << 2 * k & 0xFFFFF;
        }
        int[] turned = {row[0], row[5], row[1], row[6], row[2], row[7], row[3], row[8], row[4], row[9]};
        x = pieces(turned);
        CHECKS.is("one PIECE of three: 460 * 2 is below 1140", x.ring(0, 2), 0x3FF);
        CHECKS.is("and from its end", x.ring(9, 2), 0x3FF);
        CHECKS.is("460 * 3 is above", x.ring(0, 3), 1);
        x.stands(5, 0, 0);
        CHECKS.is("the row is cut", x.ring(0, 2), 0b0101010101 | 1 << 1 | 1 << 3);
        CHECKS.is("the other part", x.ring(9, 2), 0b1010000000);
        CHECKS.is("the one between", x.ring(5, 2), 0b100000);
    }

    private static void sketch() {
        PretendDesk x = new PretendDesk();
        Checks.page(x, "box(logo;pass;link day 3;)");
        Checks.page(x, "pin 9;");
        Checks.page(x, "box(logo land 2;pass;link;)");
        int whole = ((((7 * 31) * 31 + 50) * 31 + 20) * 31 + 70) & 0xFFFF;
        CHECKS.is("sketch(0, 16)", x.sketch(0, 16), whole);
        CHECKS.is("what is not shown counts, too", x.sketch(2, 16), whole);
        for (int n = 0; n < 16; n++) {
            CHECKS.is("sketch(0, " + n + ")", x.sketch(0, n), whole % (1 << n));
        }
        CHECKS.is("sketch(1, 16)", x.sketch(1, 16), 7 * 31 + 49);
        CHECKS.is("sketch(1, 8)", x.sketch(1, 8), (7 * 31 + 49) % 256);
        CHECKS.is("n 17", x.sketch(0, 17), -1);
        CHECKS.is("n -1", x.sketch(0, -1), -1);
        CHECKS.is("page 3", x.sketch(3, 0), -1);
        CHECKS.is("page -1", x.sketch(-1, 0), -1);
    }

    private static void leaves() {
        PretendDesk x = new PretendDesk();
        CHECKS.is("no page", x.leaves(0, 1), -1);
        // 7 * 31 + 10 * KIND + COLOUR: 217, 219, 225, 217.
        Checks.page(x, "box;");
        Checks.page(x, "box 2;");
        Checks.page(x, "box 8;");
        Checks.page(x, "box;");
        CHECKS.is("itself, and its like", x.leaves(0, 1), 16);
        CHECKS.is("two", x.leaves(0, 2), 16);
        CHECKS.is("three: 225 is 217 + 8", x.leaves(0, 3), 3);
        CHECKS.is("four: 219 is 217 + 2", x.leaves(0, 4), 1);
        CHECKS.is("five", x.leaves(0, 5), -1);
        CHECKS.is("page 2 of three", x.leaves(2, 3), 3);
        CHECKS.is("page 1 of two", x.leaves(1, 2), 1);
        CHECKS.is("m 0", x.leaves(0, 0), -1);
        CHECKS.is("m -1", x.leaves(0, -1), -1);
        CHECKS.is("m 11", x.leaves(0, 11), -1);
        CHECKS.is("page 4", x.leaves(4, 1), -1);
        CHECKS.is("page -1", x.leaves(-1, 1), -1);
        Checks.page(x, "box 1;");
        CHECKS.is("odd and even: all have the same nothing", x.leaves(0, 5), 0);
        for (int k = 0; k < 5; k++) {
            Checks.page(x, "box;");
        }
        CHECKS.is("ten", x.leaves(0, 10), 0);
        CHECKS.is("seven", x.leaves(0, 7), 16);
    }
}
