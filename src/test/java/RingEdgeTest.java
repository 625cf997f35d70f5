/** The edges of promises 31 to 34: odds, ring, sketch, leaves; of ODDS, RINGS and SKETCHES. */
public final class RingEdgeTest {
    private static final int ALL_PIECES = (1 << 20) - 1;
    private static final long[][] CHOICES = choices();

    public static void main(String[] args) {
        Edges.run("RingEdgeTest", RingEdgeTest::sentences);
    }

    static void sentences(Edges e) {
        e.of("Term 4", "RINGS: ODDS of two PAGES: of all ways to deal so many of 20 PIECES as the second one has",
                RingEdgeTest::allWays);
        e.of("Term 4", "in how many it would share as many as it does with the first one, or more.", RingEdgeTest::asManyOrMore);
        e.of("Promise 31", "ODDS of two PAGES, what 0: in how many ways, 1: all ways.", RingEdgeTest::odds);
        e.of("Promise 31", "NONE: there is none such (of either), they are one, or for another what.", RingEdgeTest::oddsOfNone);
        e.of("Term 4", "ONE HAND with q, 1 .. 9999: ODDS * q is not above all ways,", RingEdgeTest::notAboveAllWays);
        e.of("Term 4", "and they share one PIECE at least", RingEdgeTest::shareOneAtLeast);
        e.of("Term 4", "(it is alike both ways round).", RingEdgeTest::bothWaysRound);
        e.of("Term 4", "RING of a PAGE: all that are of ONE HAND with it, with one of these, and so on (itself, too).",
                RingEdgeTest::andSoOn);
        e.of("Promise 32", "RING of a PAGE (bits).", RingEdgeTest::ring);
        e.of("Promise 32", "NONE: there is none such, or q.", RingEdgeTest::ringOfNone);
        sketches(e);
    }

    private static void sketches(Edges e) {
        e.of("Term 4", "SKETCH of a PAGE of n, 0 .. 16, bits: x is 7;", RingEdgeTest::from7);
        e.of("Term 4", "for each BOX of its text, in their order: x becomes (x * 31 + 10 * KIND + COLOUR) of 16 bits;",
                RingEdgeTest::eachBox);
        e.of("Term 4", "the lowest n of x.", RingEdgeTest::lowestBits);
        e.of("Promise 33", "SKETCH.", RingEdgeTest::sketch);
        e.of("Promise 33", "NONE: there is none such PAGE, or n.", RingEdgeTest::sketchOfNone);
        e.of("Term 4", "FITS: how many PAGES that came have the same.", RingEdgeTest::fits);
        e.of("Term 4", "LEAVES with m: the greatest n by which m PAGES at least fit.", RingEdgeTest::greatestN);
        e.of("Promise 34", "LEAVES.", RingEdgeTest::leaves);
        e.of("Promise 34", "NONE: m is not 1 .. 10,", RingEdgeTest::leavesOfNoSuchM);
        e.of("Promise 34", "there is no such PAGE,", RingEdgeTest::leavesOfNone);
        e.of("Promise 34", "or no n is there.", RingEdgeTest::leavesWithoutN);
    }

    /** Pascal's rows. */
    private static long[][] choices() {
        long[][] rows = new long[21][22];
        for (int n = 0; n <= 20; n++) {
            rows[n][0] = 1;
            for (int k = 1; k <= n; k++) {
                rows[n][k] = rows[n - 1][k - 1] + rows[n - 1][k];
            }
        }
        return rows;
    }

    /** PAGES with PIECES, one BOX each. */
    private static PretendDesk pieces(int... pieces) {
        PretendDesk x = new PretendDesk();
        for (int k = 0; k < pieces.length; k++) {
            Checks.page(x, "box;");
            x.stands(k, 0, pieces[k]);
        }
        return x;
    }

    private static int low(int n) {
        return (1 << n) - 1;
    }

    private interface Dealt {
        void deal(int first, int second, int shared);
    }

    /** All numbers of PIECES of two PAGES and of those that they share. */
    private static void all(Dealt dealt) {
        for (int first = 0; first <= 20; first++) {
            for (int second = 0; second <= 20; second++) {
                for (int shared = Math.max(0, first + second - 20); shared <= Math.min(first, second); shared++) {
                    dealt.deal(first, second, shared);
                }
            }
        }
    }

    /** The PIECES of the second PAGE, when the first one has the lowest. */
    private static int seconds(int first, int second, int shared) {
        return low(shared) | low(second - shared) << first;
    }

    private static long ways(int first, int second, int shared) {
        long ways = 0;
        for (int more = shared; more <= Math.min(first, second); more++) {
            ways += second - more <= 20 - first ? CHOICES[first][more] * CHOICES[20 - first][second - more] : 0;
        }
        return ways;
    }

    // ---- ODDS

    private static void allWays(Edges e) {
        for (int second = 0; second <= 20; second++) {
            PretendDesk x = pieces(0, low(second), ALL_PIECES);
            e.is("all ways to deal " + second, x.odds(0, 1, 1), CHOICES[20][second]);
            e.is("all ways to deal " + second, x.odds(2, 1, 1), CHOICES[20][second]);
            e.is("all ways to deal none", x.odds(1, 0, 1), 1);
            e.is("all ways to deal all", x.odds(1, 2, 1), 1);
        }
        e.is("the most", pieces(0, low(10)).odds(0, 1, 1), 184756);
    }

    private static void asManyOrMore(Edges e) {
        all((first, second, shared) -> {
            PretendDesk x = pieces(low(first), seconds(first, second, shared));
            e.is("odds of " + first + " and " + second + " with " + shared, x.odds(0, 1, 0), ways(first, second, shared));
        });
        e.is("none shared: all ways", pieces(low(5), low(5) << 5).odds(0, 1, 0), 15504);
        e.is("all shared", pieces(low(5), low(5)).odds(0, 1, 0), 1);
        e.is("one shared of one", pieces(1 << 19, 1 << 19).odds(0, 1, 0), 1);
    }

    private static void odds(Edges e) {
        PretendDesk x = Desks.RICH.make();
        int[][] due = {{0, 1, 52, 1140}, {1, 0, 52, 1140}, {0, 2, 3, 190}, {2, 0, 18, 1140}, {0, 3, 1, 1}, {3, 0, 1140, 1140}};
        for (int[] d : due) {
            e.is("odds(" + d[0] + ", " + d[1] + ", 0)", x.odds(d[0], d[1], 0), d[2]);
            e.is("odds(" + d[0] + ", " + d[1] + ", 1)", x.odds(d[0], d[1], 1), d[3]);
        }
    }

    private static void oddsOfNone(Edges e) {
        e.range("odds(a, 4, 0) of 5", 0, 3, -1, Desks.RICH, (x, n) -> x.odds(n, 4, 0));
        e.range("odds(4, b, 0) of 5", 0, 3, -1, Desks.RICH, (x, n) -> x.odds(4, n, 0));
        e.range("odds(a, 9, 1) of 10", 0, 8, -1, Desks.FULL, (x, n) -> x.odds(n, 9, 1));
        e.range("odds(0, b, 1) of 10", 1, 9, -1, Desks.FULL, (x, n) -> x.odds(0, n, 1));
        e.range("odds(0, 1, what)", 0, 1, -1, Desks.RICH, (x, n) -> x.odds(0, 1, n));
        for (int page = 0; page < 5; page++) {
            int one = page;
            e.refused("odds of " + page + " and itself", -1, Desks.RICH, x -> x.odds(one, one, 0));
            e.refused("odds of " + page + " and itself", -1, Desks.RICH, x -> x.odds(one, one, 1));
        }
        e.refused("odds(5, 0, 0) of 5", -1, Desks.RICH, x -> x.odds(5, 0, 0));
        e.refused("odds(0, 5, 0) of 5", -1, Desks.RICH, x -> x.odds(0, 5, 0));
        e.refused("odds(0, 1, 0) of none", -1, Desks.NEW, x -> x.odds(0, 1, 0));
    }

    // ---- RINGS

    private static void notAboveAllWays(Edges e) {
        all((first, second, shared) -> {
            if (shared > 0) {
                PretendDesk x = pieces(low(first), seconds(first, second, shared));
                long most = CHOICES[20][second] / ways(first, second, shared);
                String by = first + " and " + second + " with " + shared;
                e.is("the greatest q, ring of " + by, x.ring(0, (int) Math.min(most, 9999)), 3);
                e.is("one q more, ring of " + by, x.ring(0, (int) Math.min(most + 1, 9999)), most >= 9999 ? 3 : 1);
                e.is("q 1, ring of " + by, x.ring(0, 1), 3);
            }
        });
        PretendDesk x = pieces(1, 1);
        e.is("ODDS * 20 is all ways", x.ring(0, 20), 3);
        e.is("ODDS * 21 is above", x.ring(0, 21), 1);
        e.is("q 9999, 10 and 10 with 10", pieces(low(10), low(10)).ring(0, 9999), 3);
        e.is("q 9999, 10 and 10 with 9", pieces(low(10), low(10) << 1).ring(0, 9999), 1);
        e.is("q 1829, 10 and 10 with 9", pieces(low(10), low(10) << 1).ring(0, 1829), 3);
        e.is("q 1830, 10 and 10 with 9", pieces(low(10), low(10) << 1).ring(0, 1830), 1);
    }

    private static void shareOneAtLeast(Edges e) {
        // None shared: ODDS are all ways, not above them by q of 1, and yet no ONE HAND.
        e.is("10 and 10 with none", pieces(low(10), low(10) << 10).ring(0, 1), 1);
        e.is("10 and 10 with one", pieces(low(10), low(10) << 9).ring(0, 1), 3);
        e.is("none and none", pieces(0, 0).ring(0, 1), 1);
        e.is("none and all", pieces(0, ALL_PIECES).ring(0, 1), 1);
        e.is("all and none", pieces(ALL_PIECES, 0).ring(0, 1), 1);
        e.is("all and one", pieces(ALL_PIECES, 1).ring(0, 1), 3);
        e.is("all and all", pieces(ALL_PIECES, ALL_PIECES).ring(0, 1), 3);
        e.is("all and all, q 2", pieces(ALL_PIECES, ALL_PIECES).ring(0, 2), 1);
    }

    private static void bothWaysRound(Edges e) {
        all((first, second, shared) -> {
            if (shared > 0) {
                PretendDesk x = pieces(low(first), seconds(first, second, shared));
                int most = (int) Math.min(9998, CHOICES[20][second] / ways(first, second, shared));
                e.is("ring of the first and of the second, q " + most, x.ring(1, most) == x.ring(0, most), true);
                e.is("one q more", x.ring(1, most + 1) == 3, x.ring(0, most + 1) == 3);
            }
        });
    }

    private static void andSoOn(Edges e) {
        // Each shares one PIECE of two with the next one, ODDS 37 of 190: 37 * 5 is not above 190, 37 * 6 is.
        int[] row = new int[10];
        for (int k = 0; k < 10; k++) {
            row[k] = 0b11 << k;
        }
        PretendDesk x = pieces(row);
        for (int page = 0; page < 10; page++) {
            e.is("ring(" + page + ", 5)", x.ring(page, 5), 1023);
            e.is("ring(" + page + ", 6)", x.ring(page, 6), 1 << page);
        }
        x.stands(5, 0, 0);
        for (int page = 0; page < 10; page++) {
            e.is("ring(" + page + ", 5) without 5", x.ring(page, 5), page < 5 ? 31 : page == 5 ? 32 : 960);
        }
        // The last one holds all together; a ring is found against the order, too.
        x = pieces(0b1, 0b10, 0b100, 0b1000, 0b10000, 0b11111);
        for (int page = 0; page < 6; page++) {
            e.is("ring(" + page + ", 4)", x.ring(page, 4), 63);
            e.is("ring(" + page + ", 5)", x.ring(page, 5), 1 << page);
        }
        int[] turned = {row[9], row[0], row[8], row[1], row[7], row[2], row[6], row[3], row[5], row[4]};
        x = pieces(turned);
        for (int page = 0; page < 10; page++) {
            e.is("ring(" + page + ", 5), in another order", x.ring(page, 5), 1023);
        }
    }

    private static void ring(Edges e) {
        PretendDesk x = Desks.RICH.make();
        int[][] due = {{0, 21, 7}, {0, 22, 5}, {1, 21, 7}, {1, 22, 2}, {0, 63, 5}, {0, 64, 1}, {3, 1, 8}, {4, 9999, 16}};
        for (int[] d : due) {
            e.is("ring(" + d[0] + ", " + d[1] + ")", x.ring(d[0], d[1]), d[2]);
        }
    }

    private static void ringOfNone(Edges e) {
        e.range("ring(page, 1) of 5", 0, 4, -1, Desks.RICH, (x, n) -> x.ring(n, 1));
        e.range("ring(page, 1) of 10", 0, 9, -1, Desks.FULL, (x, n) -> x.ring(n, 1));
        e.range("ring(0, q)", 1, 9999, -1, Desks.RICH, (x, n) -> x.ring(0, n));
        e.refused("ring(0, 1) of none", -1, Desks.NEW, x -> x.ring(0, 1));
    }

    // ---- SKETCHES

    private static void from7(Edges e) {
        PretendDesk x = Desks.came("box;", "box 1;", "link 9;").make();
        int[] due = {217, 218, 296};
        for (int page = 0; page < 3; page++) {
            e.is("sketch(" + page + ", 16) of one BOX", x.sketch(page, 16), due[page]);
            e.is("sketch(" + page + ", 15) of one BOX", x.sketch(page, 15), due[page]);
            e.is("sketch(" + page + ", 1) of one BOX", x.sketch(page, 1), due[page] % 2);
            e.is("sketch(" + page + ", 0) of one BOX", x.sketch(page, 0), 0);
            e.is("sketch(" + page + ", 17) of one BOX", x.sketch(page, 17), -1);
            e.is("sketch(" + page + ", -1) of one BOX", x.sketch(page, -1), -1);
        }
    }

    private static void lowestBits(Edges e) {
        PretendDesk x = Desks.came("link 9;", "box;", "box(" + "link 9;".repeat(13) + ")").make();
        int[] whole = {7 * 31 + 79, 7 * 31, x.sketch(2, 16)};
        for (int page = 0; page < 3; page++) {
            for (int n = 0; n <= 16; n++) {
                e.is("sketch(" + page + ", " + n + ")", x.sketch(page, n), whole[page] % (1 << n));
            }
        }
        e.is("of 0 bits", x.sketch(0, 0), 0);
    }

    private static void eachBox(Edges e) {
        String[] kinds = {"box", "form", "pass", "card", "pin", "logo", "text", "link"};
        for (int kind = 0; kind < 8; kind++) {
            for (int colour = 0; colour <= 9; colour++) {
                StringBuilder text = new StringBuilder(kinds[kind] + " " + colour + "(");
                long due = 7 * 31 + 10 * kind + colour;
                for (int boxes = 1; boxes <= 14; boxes++) {
                    PretendDesk x = Desks.came(text + ")").make();
                    e.is("sketch of " + boxes + " " + kinds[kind] + " " + colour, x.sketch(0, 16), due);
                    text.append(kinds[7 - kind]).append(" ").append(9 - colour).append(" land 3 day 99;");
                    due = (due * 31 + 10 * (7 - kind) + 9 - colour) % 65536;
                }
            }
        }
        e.is("in their order", Desks.came("box(pin;card;)").make().sketch(0, 16), ((7 * 31) * 31 + 40) * 31 + 30 & 65535);
        e.is("in another one", Desks.came("box(card;pin;)").make().sketch(0, 16), ((7 * 31) * 31 + 30) * 31 + 40 & 65535);
        e.is("whatever they are in", Desks.came("box(card(pin;))").make().sketch(0, 16), ((7 * 31) * 31 + 30) * 31 + 40 & 65535);
    }

    private static void sketch(Edges e) {
        PretendDesk x = Desks.FULL.make();
        for (int page = 0; page < 10; page++) {
            e.is("sketch(" + page + ", 0)", x.sketch(page, 0), 0);
        }
        e.is("sketch(4, 16), a text", x.sketch(4, 16), 277);
        e.is("sketch(8, 16), a logo that is not there yet", x.sketch(8, 16), 267);
    }

    private static void sketchOfNone(Edges e) {
        e.range("sketch(page, 16) of 5", 0, 4, -1, Desks.RICH, (x, n) -> x.sketch(n, 16));
        e.range("sketch(page, 16) of 10", 0, 9, -1, Desks.FULL, (x, n) -> x.sketch(n, 16));
        e.range("sketch(0, n)", 0, 16, -1, Desks.RICH, (x, n) -> x.sketch(0, n));
        e.refused("sketch(0, 0) of none", -1, Desks.NEW, x -> x.sketch(0, 0));
    }

    /** PAGES with SKETCHES of 217 and so much more. */
    private static PretendDesk more(int... more) {
        PretendDesk x = new PretendDesk();
        for (int m : more) {
            Checks.page(x, new String[] {"box", "form", "pass", "card"}[m / 10] + " " + m % 10 + ";");
        }
        return x;
    }

    private static void fits(Edges e) {
        // Itself, too; one that is the same; PAGES of HOUSES are none that came.
        PretendDesk x = more(0, 0, 1);
        Checks.house(x, "a");
        Checks.own(x, 0, "box;");
        e.is("two have the same 16 bits", x.leaves(0, 2), 16);
        e.is("three have the same none", x.leaves(0, 3), 0);
        e.is("four: there are three", x.leaves(0, 4), -1);
        e.is("itself", x.leaves(2, 1), 16);
        e.is("what is not shown", Desks.came("box(pin;)", "box day 9(pin land 2;)").make().leaves(0, 2), 16);
    }

    private static void greatestN(Edges e) {
        // 217 is 11011001 as bits, so what is put to it differs from a bit on.
        int[] more = {0, 32, 16, 8, 4, 2, 1};
        int[] from = {16, 5, 4, 3, 2, 1, 0};
        PretendDesk x = more(more);
        for (int m = 1; m <= 7; m++) {
            e.is("leaves(0, " + m + ")", x.leaves(0, m), from[m - 1]);
        }
        e.is("leaves(1, 2), a PAGE nearer to it alone", x.leaves(1, 2), 5);
        x = more(0, 32, 32);
        e.is("leaves(0, 1)", x.leaves(0, 1), 16);
        e.is("leaves(0, 2), two at once", x.leaves(0, 2), 5);
        e.is("leaves(0, 3), two at once", x.leaves(0, 3), 5);
        e.is("leaves(1, 2)", x.leaves(1, 2), 16);
    }

    private static void leaves(Edges e) {
        PretendDesk x = more(0, 0, 0, 0, 0, 0, 0, 0, 0, 0);
        for (int m = 1; m <= 10; m++) {
            e.is("leaves(9, " + m + ") of ten that are the same", x.leaves(9, m), 16);
        }
        x = more(0, 1, 0, 1, 0, 1, 0, 1, 0, 1);
        for (int m = 1; m <= 10; m++) {
            e.is("leaves(0, " + m + ") of five and five", x.leaves(0, m), m <= 5 ? 16 : 0);
        }
    }

    private static void leavesOfNoSuchM(Edges e) {
        Edges.Maker ten = () -> more(0, 1, 2, 3, 4, 5, 6, 7, 8, 9);
        e.range("leaves(0, m) of 10", 1, 10, -1, ten, (x, n) -> x.leaves(0, n));
        e.range("leaves(0, m) of FULL", 1, 10, -1, Desks.FULL, (x, n) -> x.leaves(0, n));
    }

    private static void leavesOfNone(Edges e) {
        e.range("leaves(page, 1) of 5", 0, 4, -1, Desks.RICH, (x, n) -> x.leaves(n, 1));
        e.range("leaves(page, 1) of 10", 0, 9, -1, Desks.FULL, (x, n) -> x.leaves(n, 1));
        e.refused("leaves(0, 1) of none", -1, Desks.NEW, x -> x.leaves(0, 1));
    }

    private static void leavesWithoutN(Edges e) {
        for (int pages = 1; pages < 10; pages++) {
            int[] same = new int[pages];
            Edges.Maker maker = () -> more(same);
            int many = pages;
            e.is("leaves(0, " + many + ") of " + many, maker.make().leaves(0, many), 16);
            e.refused("leaves(0, " + (many + 1) + ") of " + many, -1, maker, x -> x.leaves(0, many + 1));
            e.refused("leaves(0, 10) of " + many, -1, maker, x -> x.leaves(0, 10));
        }
    }
}
