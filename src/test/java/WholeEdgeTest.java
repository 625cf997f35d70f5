import java.util.ArrayList;
import java.util.List;
import java.util.function.BiConsumer;

/** The document's first sentence, told of one story and asked of one object; and what is not promised. */
public final class WholeEdgeTest {
    private static final int NONE = -1;
    private static final int MOST_CALLS = 512;

    public static void main(String[] args) {
        Edges.run("WholeEdgeTest", WholeEdgeTest::sentences);
    }

    static void sentences(Edges e) {
        e.of("What it is", "Pages that pretend:", WholeEdgeTest::allOfOneObject);
        story(e, "pages told as texts of boxes, some shown to one land alone or from a day on;", WholeEdgeTest::boxes);
        story(e, "how far two pages are by the least price of changes to their trees,", WholeEdgeTest::farPages);
        story(e, "how far two names by letters that look alike;", WholeEdgeTest::farNames);
        story(e, "whom a page is like, what it asks, where it takes it and since when:", WholeEdgeTest::whomWhatWhere);
        story(e, "three signs, a cry only by all three;", WholeEdgeTest::threeSigns);
        story(e, "marks that miss fewest with no more honest ones cried at than told;", WholeEdgeTest::bestMarks);
        story(e, "what a shut room sees when it opens a page as several persons;", WholeEdgeTest::shutRoom);
        story(e, "a forger's least price to pass, and which mark would stop it;", WholeEdgeTest::forger);
        story(e, "rings of one hand by pieces shared beyond odds;", WholeEdgeTest::rings);
        story(e, "sketches that fit many;", WholeEdgeTest::sketches);
        story(e, "houses warned;", WholeEdgeTest::warned);
        story(e, "what a page's little program does with made answers, step by step, and to whose hands they come;",
                WholeEdgeTest::programs);
        story(e, "letters whose sentences press;", WholeEdgeTest::letters);
        story(e, "marks as pictures, turned and moved.", WholeEdgeTest::pictures);
        e.of("Not promised", "How the state is held inside the object is free, as are the speed of each call, the text of "
                + "toString and the behaviour of equals and hashCode.", WholeEdgeTest::twoObjects);
        e.of("Not promised", "Use of one object from several threads at once is not promised to be safe.",
                WholeEdgeTest::anObjectAThread);
        e.of("Not promised", "Nothing is promised beyond the answers and state changes described above,",
                WholeEdgeTest::askingChangesNothing);
        e.of("Not promised", "and nothing about an object after its 512th call.", WholeEdgeTest::eachCallUpTo512);
    }

    private static void story(Edges e, String words, BiConsumer<Edges, PretendDesk> asked) {
        e.of("What it is", words, of -> asked.accept(of, told()));
    }

    private static List<BiConsumer<Edges, PretendDesk>> parts() {
        return List.of(WholeEdgeTest::boxes, WholeEdgeTest::farPages, WholeEdgeTest::farNames, WholeEdgeTest::whomWhatWhere,
                WholeEdgeTest::threeSigns, WholeEdgeTest::bestMarks, WholeEdgeTest::shutRoom, WholeEdgeTest::forger,
                WholeEdgeTest::rings, WholeEdgeTest::sketches, WholeEdgeTest::warned, WholeEdgeTest::programs,
                WholeEdgeTest::letters, WholeEdgeTest::pictures);
    }

    /** One object, all parts of the story in their order and the other way round. */
    private static void allOfOneObject(Edges e) {
        PretendDesk x = told();
        List<BiConsumer<Edges, PretendDesk>> parts = parts();
        for (int k = 0; k < parts.size(); k++) {
            parts.get(k).accept(e, x);
        }
        for (int k = parts.size() - 1; k >= 0; k--) {
            parts.get(k).accept(e, x);
        }
    }

    // ---- the story

    private static PretendDesk told() {
        PretendDesk x = new PretendDesk();
        tellPages(x);
        x.keep(0, 20, true);
        x.keep(1, 20, true);
        x.keep(2, 5, false);
        x.keep(3, 0, false);
        x.keep(1, 10, false);
        x.change(0, 1, 1, 0, 2);
        x.change(0, 2, 0, 25, 9);
        x.change(0, 0, 4, 0, 1);
        x.change(1, 1, 0, 1, 3);
        x.change(1, 1, 1, 1, 4);
        Checks.program(x, 0, "read pass to 0; if 0 < 50 go 3; send 0 to 2; read text to 1; mix 1 to 0; send 0 to 4;");
        x.relay(2, 3);
        x.owner(3, 0);
        x.owner(4, 1);
        Checks.word(x, "win", 1);
        Checks.word(x, "now", 2);
        Checks.word(x, "key", 3);
        x.pattern(0b110, 10);
        x.pattern(0b1000, -4);
        Checks.letter(x, "win it now. the key. now");
        x.picture(false, 0, 0b11111);
        x.picture(true, 0, 1 << 4 | 1 << 9 | 1 << 14 | 1 << 19 | 1 << 24);
        x.picture(true, 1, 0b11111 << 5);
        x.picture(true, 2, 1 << 12);
        return x;
    }

    private static void tellPages(PretendDesk x) {
        Checks.house(x, "bank");
        Checks.own(x, 0, "box 3 (logo 3; form(text; pass;))");
        Checks.house(x, "sh0p");
        Checks.own(x, 1, "form(card; link;)");
        tellPage(x, "box 3 (logo 3; form(text; pass;) link 5 land 2 day 4;)", "bamk", 10, 0b111);
        tellPage(x, "form(card; link; pin day 30;)", "shop", 0, 0b1111);
        tellPage(x, "text;", "news", 0, 0b1100);
        tellPage(x, "box 3 (logo 3; form(text; pass;))", "bank", 0, 0);
        x.alike('m', 'n', 1);
        x.alike('o', '0', 2);
    }

    private static void tellPage(PretendDesk x, String text, String name, int since, int pieces) {
        int page = Checks.page(x, text);
        Checks.name(x, page, name);
        x.stands(page, since, pieces);
    }

    // ---- what is asked of it

    private static void boxes(Edges e, PretendDesk x) {
        e.is("boxes(0, 0, 99)", x.boxes(0, 0, 99), 5);
        e.is("boxes(0, 2, 3)", x.boxes(0, 2, 3), 5);
        e.is("boxes(0, 2, 4)", x.boxes(0, 2, 4), 6);
        e.is("boxes(1, 1, 29)", x.boxes(1, 1, 29), 3);
        e.is("boxes(1, 1, 30)", x.boxes(1, 1, 30), 4);
        e.is("box(0, 5, 3)", x.box(0, 5, 3), 2);
        e.is("box(0, 5, 4)", x.box(0, 5, 4), 4);
    }

    private static void farPages(Edges e, PretendDesk x) {
        e.is("far(0, 3, 0, 4)", x.far(0, 3, 0, 4), 0);
        e.is("far(0, 3, 2, 4), the link put in", x.far(0, 3, 2, 4), 2);
        e.is("far(1, 3, 0, 0), two taken out and two KINDS", x.far(1, 3, 0, 0), 10);
        e.is("far(3, 2, 0, 0), four taken out", x.far(3, 2, 0, 0), 8);
    }

    private static void farNames(Edges e, PretendDesk x) {
        e.is("spell(0, 0), m for n", x.spell(0, 0), 1);
        e.is("spell(1, 1), o for 0", x.spell(1, 1), 2);
        e.is("spell(3, 0), the same", x.spell(3, 0), 0);
    }

    private static void whomWhatWhere(Edges e, PretendDesk x) {
        e.is("like(0, 0, 0)", x.like(0, 0, 0), 0);
        e.is("like(1, 0, 0)", x.like(1, 0, 0), 1);
        e.is("look(2, 0, 0, 0)", x.look(2, 0, 0, 0), 8);
        e.is("look(2, 1, 0, 0)", x.look(2, 1, 0, 0), 7);
        e.is("like(2, 0, 0)", x.like(2, 0, 0), 1);
        e.is("strange()", x.strange(), 10);
        e.is("asks(0, 0, 0)", x.asks(0, 0, 0), 50);
        e.is("asks(1, 0, 29)", x.asks(1, 0, 29), 60);
        e.is("asks(1, 0, 30)", x.asks(1, 0, 30), 130);
        e.is("signs(0, 0, 40), it stands for 30 DAYS", x.signs(0, 0, 40), 7);
        e.is("signs(0, 0, 41), it stands for 31 DAYS", x.signs(0, 0, 41), 3);
        e.is("signs(3, 0, 0), to the bank itself", x.signs(3, 0, 0), 3);
    }

    private static void threeSigns(Edges e, PretendDesk x) {
        e.is("signs(0, 0, 0)", x.signs(0, 0, 0), 7);
        e.is("say(0, 0, 0)", x.say(0, 0, 0), 2);
        e.is("signs(2, 0, 0), it asks nothing", x.signs(2, 0, 0), 5);
        e.is("say(2, 0, 0)", x.say(2, 0, 0), 1);
        e.is("say(3, 0, 0)", x.say(3, 0, 0), 1);
        e.is("signs(2, 0, 31)", x.signs(2, 0, 31), 1);
        e.is("say(2, 0, 31)", x.say(2, 0, 31), 0);
    }

    private static void bestMarks(Edges e, PretendDesk x) {
        int[][] due = {{0, 0, 0, 2, 0}, {0, 0, 20, 0, 1}, {0, 0, 20, 0, 1}};
        for (int h = 0; h < due.length; h++) {
            for (int what = 0; what < 5; what++) {
                e.is("fit(" + h + ", " + what + ")", x.fit(h, what), due[h][what]);
            }
        }
    }

    private static void shutRoom(Edges e, PretendDesk x) {
        e.is("differs(0, 0, 4, 2, 4)", x.differs(0, 0, 4, 2, 4), 2);
        e.is("differs(1, 0, 29, 0, 30)", x.differs(1, 0, 29, 0, 30), 2);
        e.is("hides(0, 3)", x.hides(0, 3), 0);
        e.is("hides(0, 4)", x.hides(0, 4), 2);
        e.is("late(0, 2)", x.late(0, 2), 4);
        e.is("late(0, 1)", x.late(0, 1), NONE);
        e.is("late(1, 3)", x.late(1, 3), 30);
    }

    private static void forger(Edges e, PretendDesk x) {
        int[][] due = {{9, 0b10, 1}, {1, 0b100, 1}};
        for (int what = 0; what < 3; what++) {
            e.is("pass(0, 20, 5, 40, " + what + "), it waits", x.pass(0, 20, 5, 40, what), due[0][what]);
            e.is("pass(0, 20, 5, 0, " + what + "), it asks no more", x.pass(0, 20, 5, 0, what), due[1][what]);
        }
        e.is("met(0, 20, 5, 40), it may wait", x.met(0, 20, 5, 40), NONE);
        e.is("pass(1, 20, 5, 60, 0)", x.pass(1, 20, 5, 60, 0), NONE);
        e.is("met(1, 20, 5, 60)", x.met(1, 20, 5, 60), 2);
        int[] price = {3, 7, NONE};
        for (int a = 0; a < 3; a++) {
            x.marks(a, 40, 30);
            e.is("pass(1, 20, 5, 60, 0) with MARK a " + a, x.pass(1, 20, 5, 60, 0), price[a]);
        }
        x.marks(10, 40, 30);
    }

    private static void rings(Edges e, PretendDesk x) {
        e.is("odds(0, 1, 0)", x.odds(0, 1, 0), 17);
        e.is("odds(0, 1, 1)", x.odds(0, 1, 1), 4845);
        e.is("ring(0, 286)", x.ring(0, 286), 0b1);
        e.is("ring(0, 285)", x.ring(0, 285), 0b11);
        e.is("ring(0, 32)", x.ring(0, 32), 0b11);
        e.is("ring(0, 31), by PAGE 1", x.ring(0, 31), 0b111);
    }

    private static void sketches(Edges e, PretendDesk x) {
        int[] due = {30210, 43389, 277, 30569};
        for (int page = 0; page < due.length; page++) {
            e.is("sketch(" + page + ", 16)", x.sketch(page, 16), due[page]);
        }
        int[] leaves = {16, 3, 2, 0, NONE};
        for (int m = 1; m <= leaves.length; m++) {
            e.is("leaves(1, " + m + ")", x.leaves(1, m), leaves[m - 1]);
        }
    }

    private static void warned(Edges e, PretendDesk x) {
        e.is("warn(0, 0, 20)", x.warn(0, 0, 20), 0b1);
        e.is("warn(1, 0, 20)", x.warn(1, 0, 20), 0b10);
        e.is("warn(0, 0, 41)", x.warn(0, 0, 41), 0);
    }

    private static void programs(Edges e, PretendDesk x) {
        e.is("steps(0, 0)", x.steps(0, 0), 5);
        e.is("steps(0, 20)", x.steps(0, 20), 6);
        e.is("sent(0, 0, 2)", x.sent(0, 0, 2), 0);
        e.is("sent(0, 20, 2)", x.sent(0, 20, 2), 1 << 2);
        e.is("sent(0, 20, 4)", x.sent(0, 20, 4), 1 << 2 | 1 << 6);
        e.is("goes(2, false)", x.goes(2, false), 3);
        e.is("goes(2, true)", x.goes(2, true), 1);
        e.is("taken(0, 20), 3 is the bank's", x.taken(0, 20), 1 << 2 | 1 << 6);
        x.owner(4, 0);
        e.is("taken(0, NONE), 4 is the bank's, too", x.taken(0, NONE), 0);
        x.relay(2, NONE);
        e.is("taken(0, NONE), 2 is nobody's", x.taken(0, NONE), 1 << 2);
        x.relay(2, 3);
        x.owner(4, 1);
    }

    private static void letters(Edges e, PretendDesk x) {
        int[] due = {0b110, 0b1000, 0b100, NONE};
        for (int k = 0; k < due.length; k++) {
            e.is("sentence(" + k + ")", x.sentence(k), due[k]);
        }
        e.is("holds(0)", x.holds(0), 0);
        e.is("holds(1)", x.holds(1), 1);
        e.is("presses()", x.presses(), 6);
    }

    private static void pictures(Edges e, PretendDesk x) {
        e.is("unlike(0, 0), turned by three quarters", x.unlike(0, 0), 0);
        e.is("unlike(1, 0), moved up", x.unlike(1, 0), 0);
        e.is("unlike(2, 0)", x.unlike(2, 0), 6);
        e.is("unlike(2, 1)", x.unlike(2, 1), 1);
        e.is("near(0)", x.near(0), 0);
        e.is("near(2)", x.near(2), 1);
    }

    // ---- what is not promised

    /** Whatever an object holds is its own: what is told to another one is not told to it. */
    private static void twoObjects(Edges e) {
        PretendDesk x = told();
        e.same("another object that is told much", () -> {
            PretendDesk one = told();
            Desks.RICH.make();
            Desks.FULL.make();
            Desks.WORDY.make();
            return one;
        }, WholeEdgeTest::told);
        PretendDesk y = new PretendDesk();
        for (BiConsumer<Edges, PretendDesk> part : parts()) {
            part.accept(e, x);
            y.marks(1, 2, 3);
            Checks.page(y, "pin;");
            Checks.house(y, "y");
            Checks.letter(y, "y");
            y.alike('m', 'n', 5);
            e.is("strange() of another one", y.strange(), NONE);
            e.is("asks(0, 0, 0) of another one", y.asks(0, 0, 0), 70);
        }
    }

    /** Objects of their own in threads of their own: nothing is held outside an object. */
    private static void anObjectAThread(Edges e) {
        int[] due = asked();
        int[][] got = new int[4][];
        List<Thread> threads = new ArrayList<>();
        for (int k = 0; k < got.length; k++) {
            int mine = k;
            threads.add(new Thread(() -> got[mine] = asked()));
        }
        threads.forEach(Thread::start);
        for (Thread thread : threads) {
            try {
                thread.join();
            } catch (InterruptedException broken) {
                e.is("a thread was broken off", false, true);
            }
        }
        for (int[] each : got) {
            for (int k = 0; each != null && k < due.length; k++) {
                e.is("answer " + k + " of a thread's own object", each[k], due[k]);
            }
            e.is("a thread has asked", each != null, true);
        }
    }

    private static int[] asked() {
        int[] answers = new int[50];
        for (int round = 0; round < answers.length; round++) {
            PretendDesk x = told();
            for (int page = 0; page < 4; page++) {
                answers[round] = answers[round] * 31 + x.signs(page, round % 4, round) + 7 * x.pass(page, round, 9, 0, 1)
                        + 3 * x.taken(page, round) + x.unlike(page, 0) + x.spell(page, 1) + x.far(page, 3, 2, round);
            }
            answers[round] = answers[round] * 31 + x.presses() + x.fit(1, 2);
        }
        return answers;
    }

    private static void askingChangesNothing(Edges e) {
        Edges.Ask[] asks = {
            x -> x.fault(0), x -> x.spell(0, 0), x -> x.boxes(0, 2, 50), x -> x.box(0, 1, 0), x -> x.far(0, 1, 2, 50),
            x -> x.look(1, 0, 3, 9), x -> x.like(1, 3, 9), x -> x.asks(1, 3, 9), x -> x.strange(), x -> x.signs(0, 1, 33),
            x -> x.say(0, 1, 33), x -> x.differs(0, 0, 0, 2, 99), x -> x.hides(0, 50), x -> x.late(1, 0), x -> x.fit(1, 0),
            x -> x.pass(0, 40, 20, 30, 1), x -> x.met(0, 40, 20, 30), x -> x.odds(0, 1, 0), x -> x.ring(0, 100),
            x -> x.sketch(0, 9), x -> x.leaves(0, 2), x -> x.warn(0, 0, 0), x -> x.goes(2, true), x -> x.sent(0, 7, 2),
            x -> x.steps(0, 7), x -> x.taken(0, 7), x -> x.taken(0, NONE), x -> x.sentence(0), x -> x.holds(0),
            x -> x.presses(), x -> x.unlike(0, 0), x -> x.near(0), x -> x.count(1), x -> x.count(8),
        };
        Edges.Maker[] makers = {Desks.RICH, Desks.FULL, Desks.WORDY, Desks.NEW};
        for (Edges.Maker maker : makers) {
            for (int k = 0; k < asks.length; k++) {
                e.refused("asking call " + k, asks[k].of(maker.make()), maker, asks[k]);
            }
        }
    }

    /** Up to its 512th call an object answers as it did at first. */
    private static void eachCallUpTo512(Edges e) {
        PretendDesk x = new PretendDesk();
        Checks.tell(x, "pin;");
        x.page();
        int calls = 4;
        while (calls < MOST_CALLS) {
            calls++;
            e.is("asks(0, 0, 0) as call " + calls, x.asks(0, 0, 0), 70);
        }
    }
}
