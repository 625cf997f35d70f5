import java.util.ArrayList;
import java.util.IdentityHashMap;
import java.util.List;
import java.util.Map;
import java.util.function.Consumer;

/**
 * The sentences of the document, each with a test of its own. A test says which sentence it is of
 * (its place and its words, which have to stand there), and what goes wrong is told with them.
 *
 * <p>What stays as it was when a call is refused is found by twins: one desk on which it was called,
 * and one on which it was not, have to answer alike whatever is asked (Probe).
 */
final class Edges {
    /** Makes a desk, by the same calls each time. */
    interface Maker {
        PretendDesk make();
    }

    interface Ask {
        int of(PretendDesk x);
    }

    interface AskBy {
        int of(PretendDesk x, int n);
    }

    record Sentence(String place, String words) { }

    private final String test;
    private final boolean running;
    private final List<Sentence> sentences = new ArrayList<>();
    private final Map<Maker, Probe> known = new IdentityHashMap<>();
    private Sentence now;
    private int asked;
    private int wrong;

    private Edges(String test, boolean running) {
        this.test = test;
        this.running = running;
    }

    /** Runs the tests of a class and ends with exit code 1 if something was not as due. */
    static void run(String test, Consumer<Edges> sentences) {
        Edges edges = new Edges(test, true);
        sentences.accept(edges);
        System.out.println(test + ": " + edges.sentences.size() + " sentences, " + edges.asked + " answers, "
                + edges.wrong + " wrong");
        if (edges.wrong != 0 || edges.asked == 0) {
            System.exit(1);
        }
    }

    /** The sentences alone, without running their tests. */
    static List<Sentence> told(Consumer<Edges> sentences) {
        Edges edges = new Edges("", false);
        sentences.accept(edges);
        return edges.sentences;
    }

    /** A sentence, or a part of one, and its test. */
    void of(String place, String words, Consumer<Edges> testOfIt) {
        now = new Sentence(place, words);
        sentences.add(now);
        if (!running) {
            return;
        }
        int before = asked;
        is("the sentence stands in the document", Doc.places().getOrDefault(place, "").contains(Doc.plain(words)), true);
        try {
            testOfIt.accept(this);
        } catch (RuntimeException thrown) {
            thrown.printStackTrace(System.out);
            is("a call threw " + thrown, false, true);
        }
        is("something is asked", asked > before + 1, true);
    }

    void is(String call, long got, long due) {
        asked++;
        if (got != due) {
            wrong++;
            System.out.println(test + ": " + now.place() + ", \"" + now.words() + "\": " + call + " answered " + got
                    + ", due is " + due);
        }
    }

    void is(String call, boolean got, boolean due) {
        is(call, bit(got), bit(due));
    }

    static int bit(boolean answer) {
        return answer ? 1 : 0;
    }

    void fault(String call, PretendDesk x, int fault, int place) {
        is(call + ": fault(0)", x.fault(0), fault);
        is(call + ": fault(1)", x.fault(1), place);
    }

    /** The tape has no byte. */
    void empty(String call, PretendDesk x) {
        is(call + ": the tape is empty, end(1)", x.end(1), -1);
        is(call + ": the tape is empty, feed", x.feed(0, 0, 0, 0, 0), 20);
        x.end(0);
    }

    // ---- refused calls

    /** A call, refused or asking alone: it answers so, and all is as if it had not been. */
    void refused(String call, int due, Maker maker, Ask ask) {
        is(call, ask.of(maker.make()), due);
        stays(call, maker, ask, true);
    }

    /** A call that takes a text and is refused: the answer, the FAULT, an empty tape; all else stays. */
    void refusedText(String call, String text, int due, int fault, int place, Maker maker, Ask ask) {
        String told = call + " of '" + text + "'";
        // The FAULT before is another one, so that a FAULT that stays is found.
        Ask tellAndAsk = x -> {
            Checks.letter(x, "a".repeat(17) + "?");
            return ask.of(Checks.tell(x, text));
        };
        PretendDesk x = maker.make();
        is(told, tellAndAsk.of(x), due);
        fault(told, x, fault, place);
        empty(told, x);
        fault(told + ", behind that", x, fault, place);
        stays(told, maker, tellAndAsk, false);
    }

    /** Numbers from lo to hi are taken, those beside them refused, and then all stays as it was. */
    void range(String call, int lo, int hi, int refusal, Maker maker, AskBy ask) {
        int[] taken = {lo, lo + (hi - lo) / 2, hi};
        for (int n : taken) {
            is(call + " by " + n + " is taken", ask.of(maker.make(), n) != refusal, true);
        }
        int[] none = {lo - 1, hi + 1, lo - 256, hi + 256, lo + 65536 * 1024, Integer.MIN_VALUE, Integer.MAX_VALUE};
        for (int n : none) {
            refused(call + " by " + n, refusal, maker, x -> ask.of(x, n));
        }
    }

    /** Two desks answer alike, whatever is asked. */
    void same(String call, Maker one, Maker due) {
        compare(call, new Probe(one), new Probe(due), true);
    }

    /** The same of what they are now, whatever images they have. */
    void sameNow(String call, Maker one, Maker due) {
        compare(call, new Probe(one, 0), new Probe(due, 0), true);
    }

    private void stays(String call, Maker maker, Ask ask, boolean tapeToo) {
        Probe got = new Probe(() -> {
            PretendDesk x = maker.make();
            ask.of(x);
            return x;
        });
        compare(call, got, known.computeIfAbsent(maker, Probe::new), tapeToo);
    }

    private void compare(String call, Probe got, Probe due, boolean tapeToo) {
        String difference = got.differs(due, tapeToo);
        asked++;
        if (difference != null) {
            wrong++;
            System.out.println(test + ": " + now.place() + ", \"" + now.words() + "\": behind " + call + " there is "
                    + difference);
        }
    }
}
