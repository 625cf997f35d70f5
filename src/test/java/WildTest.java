import java.util.Random;

/**
 * No call may throw, whatever its arguments and the state: rows of 512 calls with great and small
 * numbers in all places, by a fixed seed.
 */
public final class WildTest {
    private static final int[] EDGES = {0, 1, 2, 3, 4, 5, 6, 7, 8, 9, 10, 13, 14, 15, 16, 17, 19, 20, 21, 24, 25, 26, 29, 30,
        37, 38, 59, 60, 61, 98, 99, 100, 199, 200, 201, 255, 256, 499, 500, 501, 999, 1000, 9999, 10000,
        (1 << 20) - 1, 1 << 20, (1 << 25) - 1, 1 << 25, Integer.MAX_VALUE, Integer.MIN_VALUE, -1, -2, -3, -100};
    private static final String[] TEXTS = {
        "", "bank", "0", "a.b", "abcdefgh", "abcdefghi", "win. now", "box;", "box(pin;pass;)", "pin land 2 day 9;",
        "box(box(box(box(box(box;)))))", "box(box(box(box(box(box(box;))))))", "((((", "12345", "\0\0", "box(((", "stop;",
        "box(pin;pin;pin;pin;pin;pin;pin;pin;pin;pin;pin;pin;pin;)", "read pin to 5;send 5 to 9;go 0;", "if 0<1 go 20;",
        "form 9(link 9 land 3 day 99(text;)logo;)", "mix 5 to 5;put 99 to 0;read box to 0;send 0 to 0;", "put 1 to",
    };
    private static final Checks CHECKS = new Checks("WildTest");

    private final Random random;
    private final PretendDesk x = new PretendDesk();

    private WildTest(long seed) {
        random = new Random(seed);
    }

    public static void main(String[] args) {
        for (long seed = 0; seed < 1500; seed++) {
            WildTest test = new WildTest(seed);
            int last = -1;
            try {
                for (int k = 0; k < 512; k++) {
                    last = test.random.nextInt(56);
                    test.call(last);
                }
            } catch (RuntimeException thrown) {
                System.out.println("seed " + seed + ", call " + last + ": " + thrown);
                last = -2;
            }
            CHECKS.is("seed " + seed, last == -2, false);
        }
        CHECKS.end();
    }

    private int n() {
        return random.nextInt(4) > 0 ? random.nextInt(4) : EDGES[random.nextInt(EDGES.length)];
    }

    private void text() {
        if (random.nextInt(3) > 0) {
            Checks.tell(x, TEXTS[random.nextInt(TEXTS.length)]);
        } else {
            x.feed(random.nextInt(), 0x626F7828, 0x626F7828, n(), random.nextInt());
        }
    }

    private boolean yes() {
        return random.nextBoolean();
    }

    private void call(int which) {
        if (which < 28) {
            tell(which);
        } else {
            ask(which);
        }
    }

    private void tell(int which) {
        switch (which) {
            case 0 -> x.feed(n(), n(), n(), n(), n());
            case 1 -> x.end(n());
            case 2, 3 -> {
                text();
                x.house();
            }
            case 4 -> {
                text();
                x.name(n());
            }
            case 5, 6 -> {
                text();
                x.own(n());
            }
            case 7, 8 -> {
                text();
                x.page();
            }
            case 9, 10 -> {
                text();
                x.program(n());
            }
            case 11 -> {
                text();
                x.word(n());
            }
            case 12 -> {
                text();
                x.letter();
            }
            case 13 -> x.fault(n());
            case 14 -> x.alike('a' + n(), yes() ? n() : '0' + n(), n());
            case 15 -> x.stands(n(), n(), n());
            case 16 -> x.worth(n(), n());
            case 17 -> x.marks(n(), n(), n());
            case 18 -> x.keep(n(), n(), yes());
            case 19, 20 -> x.change(n(), n(), n(), n(), n());
            case 21 -> x.relay(n(), n());
            case 22 -> x.owner(n(), n());
            case 23 -> x.pattern(n(), n());
            case 24 -> x.picture(yes(), n(), n());
            case 25 -> x.image(n());
            case 26 -> x.again(n());
            default -> x.count(n());
        }
    }

    private void ask(int which) {
        switch (which) {
            case 28 -> x.spell(n(), n());
            case 29 -> x.boxes(n(), n(), n());
            case 30 -> x.box(n(), n(), n());
            case 31 -> x.far(n(), n(), n(), n());
            case 32 -> x.look(n(), n(), n(), n());
            case 33 -> x.like(n(), n(), n());
            case 34 -> x.asks(n(), n(), n());
            case 35 -> x.strange();
            case 36 -> x.signs(n(), n(), n());
            case 37 -> x.say(n(), n(), n());
            case 38 -> x.differs(n(), n(), n(), n(), n());
            case 39 -> x.hides(n(), n());
            case 40 -> x.late(n(), n());
            case 41 -> x.fit(n(), n());
            case 42 -> x.pass(n(), n(), n(), n(), n());
            case 43 -> x.met(n(), n(), n(), n());
            case 44 -> x.odds(n(), n(), n());
            case 45 -> x.ring(n(), n());
            case 46 -> x.sketch(n(), n());
            case 47 -> x.leaves(n(), n());
            case 48 -> x.warn(n(), n(), n());
            case 49 -> x.goes(n(), yes());
            case 50 -> x.sent(n(), n(), n());
            case 51 -> x.steps(n(), n());
            case 52 -> x.taken(n(), n());
            case 53 -> {
                x.sentence(n());
                x.holds(n());
                x.presses();
            }
            case 54 -> x.unlike(n(), n());
            default -> x.near(n());
        }
    }
}
