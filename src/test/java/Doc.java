import java.io.IOException;
import java.io.UncheckedIOException;
import java.nio.file.Files;
import java.nio.file.Path;
import java.util.LinkedHashMap;
import java.util.Map;
import java.util.regex.Matcher;
import java.util.regex.Pattern;

/** What ../shared/DOC.md says, by its places: "Term 1" .. "Term 7", "Promise 1" .. "Promise 54", and two lines more. */
final class Doc {
    private static final Map<String, String> PLACES = read();

    private Doc() {
    }

    static Map<String, String> places() {
        return PLACES;
    }

    /** One blank between words, so that a sentence is found over the ends of lines. */
    static String plain(String text) {
        return text.replace("```text", " ").replace("```", " ").replaceAll("\\s+", " ").trim();
    }

    private static Map<String, String> read() {
        String text;
        try {
            text = Files.readString(Path.of("../shared/DOC.md"));
        } catch (IOException e) {
            throw new UncheckedIOException(e);
        }
        Map<String, String> places = new LinkedHashMap<>();
        places.put("Use", plain(found("(?s)\n(An object is used .*?)\n", text)));
        places.put("Constants", plain(found("(?s)\n(The constants: .*?)\n", text)));
        String terms = found("(?s)\n## Terms\n(.*?)\nThe constants: ", text);
        Matcher term = Pattern.compile("(?ms)^([0-9]+)\\. (.*?)(?=^[0-9]+\\. |\\z)").matcher(terms);
        while (term.find()) {
            places.put("Term " + term.group(1), plain(term.group(2)));
        }
        Matcher promise = Pattern.compile("(?ms)^## Promise ([0-9]+): .*?\n(.*?)(?=^## )").matcher(text);
        while (promise.find()) {
            places.put("Promise " + promise.group(1), plain(promise.group(2).replaceFirst("(?s)`[^`]*`:", "")));
        }
        return places;
    }

    private static String found(String pattern, String text) {
        Matcher m = Pattern.compile(pattern).matcher(text);
        return m.find() ? m.group(1) : "";
    }
}
