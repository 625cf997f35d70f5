import java.util.ArrayList;
import java.util.LinkedHashMap;
import java.util.List;
import java.util.Map;
import java.util.function.Consumer;

/**
 * The tests of the edges leave nothing out: each word of the document, from its first line to its
 * last, stands in a sentence that has a test. (The face and the heads of the promises: FaceTest.)
 */
public final class CoverTest {
    private static final List<Consumer<Edges>> TESTS = List.of(TapeEdgeTest::sentences, NameEdgeTest::sentences,
            PageEdgeTest::sentences, FarEdgeTest::sentences, SignEdgeTest::sentences, RoomEdgeTest::sentences,
            MarksEdgeTest::sentences, ForgerEdgeTest::sentences, RingEdgeTest::sentences, ProgramEdgeTest::sentences,
            LetterEdgeTest::sentences, PictureEdgeTest::sentences, ImageEdgeTest::sentences, WholeEdgeTest::sentences);

    public static void main(String[] args) {
        Checks checks = new Checks("CoverTest");
        Map<String, List<String>> told = new LinkedHashMap<>();
        for (Consumer<Edges> test : TESTS) {
            for (Edges.Sentence sentence : Edges.told(test)) {
                told.computeIfAbsent(sentence.place(), place -> new ArrayList<>()).add(Doc.plain(sentence.words()));
            }
        }
        checks.is("places of the document", Doc.places().size(), 4 + 7 + 54);
        checks.is("nothing else is said: " + Doc.rest(), Doc.rest().isEmpty(), true);
        for (int k = 1; k <= 54; k++) {
            checks.is("Promise " + k + " is told", Doc.places().getOrDefault("Promise " + k, "").isEmpty(), false);
            checks.is("Promise " + k + " has a test", told.containsKey("Promise " + k), true);
        }
        for (Map.Entry<String, String> place : Doc.places().entrySet()) {
            String left = without(place.getValue(), told.getOrDefault(place.getKey(), List.of()));
            checks.is(place.getKey() + " has no test of: " + left, left.isEmpty(), true);
        }
        checks.end();
    }

    /** What is left of a text without its sentences. */
    private static String without(String text, List<String> sentences) {
        StringBuilder left = new StringBuilder(text);
        for (String sentence : sentences) {
            int at = text.indexOf(sentence);
            for (int k = at; k >= 0 && k < at + sentence.length(); k++) {
                left.setCharAt(k, ' ');
            }
        }
        return left.toString().replaceAll("\\s+", " ").trim();
    }
}
