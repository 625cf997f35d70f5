import java.util.ArrayList;
import java.util.List;
import java.util.Random;

/** Rows of calls made by a fixed seed, each held against the plain Model: all promises. */
public final class ModelTest {
    private static final Checks CHECKS = new Checks("ModelTest");
    private static final String[] WORDS = {"win", "now", "key", "send", "you", "abcdefgh", "a", "code", "bank"};

    private final Random random;
    private final int size;
    private final PretendDesk desk = new PretendDesk();
    private final Model model = new Model();
    private final List<String> pageTexts = new ArrayList<>();
    private final List<String> history = new ArrayList<>();
    private boolean broken;
    private int calls;

    private ModelTest(long seed, int size) {
        random = new Random(seed);
        this.size = size;
    }

    public static void main(String[] args) {
        int runs = args.length > 0 ? Integer.parseInt(args[0]) : 200;
        long first = args.length > 1 ? Long.parseLong(args[1]) : 1;
        for (long seed = first; seed < first + runs; seed++) {
            int size = seed % 10 == 0 ? 14 : 3 + (int) (seed % 5);
            new ModelTest(seed, size).run(seed);
        }
        CHECKS.end();
    }

    /** An object is used for 512 calls: 47 are asked in the end, and no round has more than 60. */
    private void run(long seed) {
        while (calls < 400 && !broken) {
            call(seed, random.nextInt(30) < 16 ? random.nextInt(20) : 20 + random.nextInt(34));
        }
        for (int what = -2; what < 45; what++) {
            due("count(" + what + ")", desk.count(what), model.count(what));
        }
    }

    private void due(String call, long got, long want) {
        calls++;
        if (got != want && !broken) {
            broken = true;
            System.out.println("  " + String.join("\n  ", history));
        }
        CHECKS.is(call, got, want);
    }

    private void due(String call, boolean got, boolean want) {
        due(call, got ? 1 : 0, want ? 1 : 0);
    }

    // ---- made arguments: mostly good ones, now and then one that can't be

    private int below(int n) {
        int r = random.nextInt(30);
        if (r == 0) {
            return -1;
        }
        return r == 1 ? n : r == 2 ? n - 1 : random.nextInt(n);
    }

    private int some() {
        return below(4);
    }

    private int land() {
        return below(4);
    }

    private int day() {
        return random.nextBoolean() ? below(100) : random.nextInt(12);
    }

    private String number(int most, int often) {
        return random.nextInt(150) == 0 ? "" + (most + 1) : "" + random.nextInt(Math.min(most, often) + 1);
    }

    private String box(int left, int depth) {
        StringBuilder b = new StringBuilder(Model.KINDS.get(random.nextInt(random.nextBoolean() ? 3 : 8)));
        b.append(random.nextInt(3) == 0 ? " " + number(9, 3) : "");
        b.append(random.nextInt(5) == 0 ? " land " + number(3, 3) : "");
        b.append(random.nextInt(5) == 0 ? "\nday " + number(99, 9) : "");
        if (left <= 1 || depth > 6) {
            return b.append(random.nextBoolean() ? ";" : "()").toString();
        }
        b.append("(");
        int rest = left - 1;
        while (rest > 0) {
            int part = 1 + random.nextInt(rest);
            b.append(box(part, depth + 1)).append(random.nextInt(4) == 0 ? " " : "");
            rest -= part;
        }
        return b.append(")").toString();
    }

    private String damaged(String text, int oneOf) {
        if (random.nextInt(oneOf) != 0 || text.isEmpty()) {
            return text;
        }
        String[] bits = {"", " ", ";", "(", ")", "box", "day", "12345", "7", "?", "<", "\n", "\u00e9", "\0", "land 1"};
        int at = random.nextInt(text.length());
        int to = Math.min(text.length(), at + random.nextInt(3));
        return text.substring(0, at) + bits[random.nextInt(bits.length)] + text.substring(to);
    }

    private String pageText() {
        String text;
        if (!pageTexts.isEmpty() && random.nextInt(3) > 0) {
            String kind = Model.KINDS.get(random.nextInt(8));
            text = pageTexts.get(random.nextInt(pageTexts.size())).replaceFirst("(?s)(box|pass|form)", kind);
        } else {
            text = box(1 + random.nextInt(random.nextInt(12) == 0 ? 17 : size), 0);
        }
        text = damaged(text, 6);
        if (text.length() > 480) {
            text = text.substring(0, 480);
        }
        pageTexts.add(text);
        return text;
    }

    private String line() {
        String order = List.of("read", "mix", "put", "send", "if", "go", "stop").get(
                random.nextInt(random.nextInt(4) == 0 ? 7 : 5));
        return switch (order) {
            case "read" -> "read " + Model.KINDS.get(random.nextInt(8)) + " to " + number(5, 5);
            case "mix" -> "mix " + number(5, 5) + " to " + number(5, 5);
            case "put" -> "put " + number(99, 99) + " to " + number(5, 5);
            case "send" -> "send " + number(5, 5) + " to " + number(9, 9);
            case "if" -> "if " + number(5, 5) + " < " + number(99, 99) + " go " + number(20, 20);
            case "go" -> "go " + number(20, 20);
            default -> order;
        } + ";";
    }

    private String programText() {
        StringBuilder b = new StringBuilder();
        int lines = random.nextInt(random.nextInt(8) == 0 ? 23 : 14);
        for (int k = 0; k < lines; k++) {
            b.append(line());
        }
        String text = damaged(b.toString(), 6);
        return text.substring(0, Math.min(480, text.length()));
    }

    private String letterText() {
        StringBuilder b = new StringBuilder();
        int parts = random.nextInt(24);
        for (int k = 0; k < parts; k++) {
            b.append(random.nextInt(3) == 0 ? "." : WORDS[random.nextInt(WORDS.length)]);
            b.append(random.nextInt(3) == 0 ? "" : random.nextInt(5) == 0 ? "\n" : " ");
        }
        return damaged(b.toString(), 8);
    }

    private String nameText() {
        String[] names = {"bank", "bamk", "bnak", "b4nk", "shop", "sh0p", "shopp", "abcdefghijkl", "abcdefghijklm", "x", ""};
        return damaged(names[random.nextInt(names.length)], 8);
    }

    private String wordText() {
        String word = WORDS[random.nextInt(WORDS.length)];
        if (random.nextInt(3) == 0) {
            word = "w" + (char) ('a' + random.nextInt(26));
        }
        return random.nextInt(12) == 0 ? word + "abcdefgh" : damaged(word, 10);
    }

    private int squares() {
        return random.nextInt(20) == 0 ? 1 << 25 : random.nextInt(1 << 25) & random.nextInt(1 << 25);
    }

    private int pieces() {
        return random.nextInt(20) == 0 ? 1 << 20 : random.nextInt(1 << 20) & random.nextInt(1 << 20);
    }

    private void tell(String text) {
        history.add("tape: " + text.replace("\n", "\\n"));
        Checks.tell(desk, text);
        Checks.tell(model, text);
        calls += 3 + text.length() / 20;
    }

    // ---- the calls

    private void call(long seed, int which) {
        history.add("call " + which + " of seed " + seed);
        if (which < 20) {
            tellOn(which);
        } else if (which < 37) {
            askTrees(which);
        } else {
            askRest(which);
        }
        due("fault(0)", desk.fault(0), model.fault(0));
        due("fault(1)", desk.fault(1), model.fault(1));
    }

    private void tellOn(int which) {
        int a = some();
        int b = below(5);
        switch (which) {
            case 0, 1 -> {
                tell(nameText());
                due("house()", desk.house(), model.house());
            }
            case 2, 3 -> {
                tell(nameText());
                due("name(" + a + ")", desk.name(a), model.name(a));
            }
            case 4, 5 -> {
                tell(pageText());
                due("own(" + a + ")", desk.own(a), model.own(a));
            }
            case 6, 7, 8 -> {
                tell(pageText());
                due("page()", desk.page(), model.page());
            }
            case 9 -> {
                tell(programText());
                due("program(" + a + ")", desk.program(a), model.program(a));
            }
            case 10 -> {
                int m = below(8);
                tell(wordText());
                due("word(" + m + ")", desk.word(m), model.word(m));
            }
            case 11 -> {
                tell(letterText());
                due("letter()", desk.letter(), model.letter());
            }
            case 12 -> {
                int s = "abknm04".charAt(random.nextInt(7));
                int t = random.nextInt(6) == 0 ? random.nextInt(300) - 20 : "abknm04".charAt(random.nextInt(7));
                int p = below(8);
                due("alike(" + s + ", " + t + ", " + p + ")", desk.alike(s, t, p), model.alike(s, t, p));
            }
            case 13 -> {
                int d = day();
                int p = pieces();
                due("stands(" + a + ", " + d + ", " + p + ")", desk.stands(a, d, p), model.stands(a, d, p));
            }
            case 14 -> {
                int k = below(8);
                int w = below(100);
                due("worth(" + k + ", " + w + ")", desk.worth(k, w), model.worth(k, w));
            }
            case 15 -> {
                int x = random.nextInt(6) == 0 ? below(61) : random.nextInt(14);
                int y = below(201);
                int z = below(100);
                due("marks(" + x + ", " + y + ", " + z + ")", desk.marks(x, y, z), model.marks(x, y, z));
            }
            case 16 -> {
                int sort = below(3);
                int box = below(5);
                int n = sort == 2 ? below(100) : below(10);
                int price = random.nextInt(10) == 0 ? below(100) : 1 + random.nextInt(5);
                due("change(" + a + ", " + sort + ", " + box + ", " + n + ", " + price + ")",
                        desk.change(a, sort, box, n, price), model.change(a, sort, box, n, price));
            }
            case 17 -> {
                int d = day();
                boolean pretends = random.nextBoolean();
                due("keep(" + a + ", " + d + ", " + pretends + ")", desk.keep(a, d, pretends), model.keep(a, d, pretends));
            }
            case 18 -> {
                int x = below(10);
                int y = random.nextInt(3) == 0 ? -1 : below(10);
                int h = random.nextInt(5) == 0 ? -1 : some();
                due("relay(" + x + ", " + y + ")", desk.relay(x, y), model.relay(x, y));
                due("owner(" + y + ", " + h + ")", desk.owner(y, h), model.owner(y, h));
            }
            default -> {
                int bits = below(256);
                int weight = random.nextInt(210) - 105;
                due("pattern(" + bits + ", " + weight + ")", desk.pattern(bits, weight), model.pattern(bits, weight));
                boolean came = random.nextBoolean();
                int s = squares();
                due("picture(" + came + ", " + b + ", " + s + ")", desk.picture(came, b, s), model.picture(came, b, s));
            }
        }
    }

    private void askTrees(int which) {
        int a = some();
        int b = some();
        int l = land();
        int d = day();
        String at = "(" + a + ", " + l + ", " + d + ")";
        switch (which) {
            case 20 -> due("boxes" + at, desk.boxes(a, l, d), model.boxes(a, l, d));
            case 21 -> {
                int k = below(6);
                for (int what = -1; what < 6; what++) {
                    due("box(" + a + ", " + k + ", " + what + ")", desk.box(a, k, what), model.box(a, k, what));
                }
            }
            case 22, 23 -> due("far(" + b + ") " + at, desk.far(a, b, l, d), model.far(a, b, l, d));
            case 24, 25 -> due("look(" + b + ") " + at, desk.look(a, b, l, d), model.look(a, b, l, d));
            case 26 -> due("like" + at, desk.like(a, l, d), model.like(a, l, d));
            case 27 -> due("asks" + at, desk.asks(a, l, d), model.asks(a, l, d));
            case 28 -> due("strange()", desk.strange(), model.strange());
            case 29, 30 -> {
                due("signs" + at, desk.signs(a, l, d), model.signs(a, l, d));
                due("say" + at, desk.say(a, l, d), model.say(a, l, d));
            }
            case 31 -> {
                int o = land();
                int i = day();
                due("differs" + at + o + ", " + i, desk.differs(a, l, d, o, i), model.differs(a, l, d, o, i));
            }
            case 32 -> due("hides" + at, desk.hides(a, d), model.hides(a, d));
            case 33 -> due("late" + at, desk.late(a, l), model.late(a, l));
            case 34 -> askFit();
            default -> {
                int k = random.nextInt(4) == 0 ? below(100) : random.nextInt(20);
                int w = random.nextInt(4) == 0 ? below(1000) : random.nextInt(90);
                String aim = "(" + a + ", " + d + ", " + k + ", " + w + ")";
                for (int what = -1; what < 4; what++) {
                    due("pass" + aim + what, desk.pass(a, d, k, w, what), model.pass(a, d, k, w, what));
                }
                due("met" + aim, desk.met(a, d, k, w), model.met(a, d, k, w));
            }
        }
    }

    private void askFit() {
        int h = random.nextInt(4) == 0 ? below(17) : random.nextInt(3);
        if (random.nextInt(3) > 0 || h < 0 || h > 16) {
            due("fit(" + h + ", 5)", desk.fit(h, 5), -1);
            due("fit(17, 0)", desk.fit(17, 0), -1);
            due("fit(-1, 0)", desk.fit(-1, 0), -1);
            return;
        }
        int[] best = model.best(h);
        for (int what = 0; what < 5; what++) {
            due("fit(" + h + ", " + what + ")", desk.fit(h, what), best == null ? -1 : best[what]);
        }
    }

    private void askRest(int which) {
        int a = some();
        int b = some();
        switch (which) {
            case 37, 38 -> {
                due("odds(" + a + ", " + b + ", 0)", desk.odds(a, b, 0), model.odds(a, b, 0));
                due("odds(" + a + ", " + b + ", 1)", desk.odds(a, b, 1), model.odds(a, b, 1));
                due("odds(" + a + ", " + b + ", 2)", desk.odds(a, b, 2), -1);
            }
            case 39 -> {
                int q = random.nextInt(3) == 0 ? random.nextInt(10001) : random.nextInt(12);
                due("ring(" + a + ", " + q + ")", desk.ring(a, q), model.ring(a, q));
            }
            case 40 -> {
                int n = below(17);
                due("sketch(" + a + ", " + n + ")", desk.sketch(a, n), model.sketch(a, n));
            }
            case 41 -> {
                int m = below(11);
                due("leaves(" + a + ", " + m + ")", desk.leaves(a, m), model.leaves(a, m));
            }
            case 42 -> {
                int l = land();
                int d = day();
                due("warn(" + a + ", " + l + ", " + d + ")", desk.warn(a, l, d), model.warn(a, l, d));
            }
            case 43 -> {
                int x = below(10);
                due("goes(" + x + ", false)", desk.goes(x, false), model.goes(x, false));
                due("goes(" + x + ", true)", desk.goes(x, true), model.goes(x, true));
            }
            case 44, 45 -> {
                int x = below(1000);
                int address = below(10);
                due("sent(" + a + ", " + x + ", " + address + ")", desk.sent(a, x, address), model.sent(a, x, address));
                due("steps(" + a + ", " + x + ")", desk.steps(a, x), model.steps(a, x));
                due("taken(" + a + ", " + x + ")", desk.taken(a, x), model.taken(a, x));
            }
            case 46 -> due("taken(" + a + ", NONE)", desk.taken(a, -1), model.taken(a, -1));
            case 47 -> {
                int k = below(8);
                due("sentence(" + k + ")", desk.sentence(k), model.sentence(k));
                due("holds(" + k + ")", desk.holds(k), model.holds(k));
                due("presses()", desk.presses(), model.presses());
            }
            case 48 -> {
                due("unlike(" + a + ", " + b + ")", desk.unlike(a, b), model.unlike(a, b));
                due("near(" + a + ")", desk.near(a), model.near(a));
            }
            case 49, 50 -> due("spell(" + a + ", " + b + ")", desk.spell(a, b), model.spell(a, b));
            case 51 -> {
                int n = below(40);
                due("feed", desk.feed(n, -1, a, 1 << 31, 7), model.feed(n, -1, a, 1 << 31, 7));
                due("end(" + n + ")", desk.end(n), model.end(n));
            }
            case 52 -> due("image(" + a + ")", desk.image(a), model.image(a));
            default -> {
                if (random.nextInt(3) == 0) {
                    due("again(" + a + ")", desk.again(a), model.again(a));
                }
            }
        }
    }
}
