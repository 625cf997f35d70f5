import java.io.IOException;
import java.io.UncheckedIOException;
import java.nio.file.Files;
import java.nio.file.Path;
import java.util.ArrayList;
import java.util.LinkedHashMap;
import java.util.List;
import java.util.Map;
import java.util.regex.Matcher;
import java.util.regex.Pattern;

/**
 * What ../shared/DOC.md says, by its places: "What it is", "Use", "Term 1" .. "Term 7", "Constants",
 * "Promise 1" .. "Promise 54", "Not promised"; and its face.
 */
final class Doc {
    private static final String TEXT = text();
    private static final Map<String, String> PLACES = read();

    private Doc() {
    }

    static Map<String, String> places() {
        return PLACES;
    }

    /** One blank between words, so that a sentence is found over the ends of lines. */
    static String plain(String text) {
        return text.replace("```text", " ").replace("```", " ").replaceAll("\\s+", " ").trim();
    }

    /** The rows of the face, as they stand there. */
    static List<String> face() {
        return found("(?s)\n## The public face\n+```java\n(.*?)```").lines().map(String::trim).toList();
    }

    /** The heads of the promises: number, name and row of the face, one behind the other. */
    static List<String> heads() {
        List<String> heads = new ArrayList<>();
        Matcher promise = Pattern.compile("(?m)^## Promise ([0-9]+): (.*)\n+`([^`]*)`: ").matcher(TEXT);
        while (promise.find()) {
            heads.add(promise.group(1));
            heads.add(promise.group(2));
            heads.add(promise.group(3));
        }
        return heads;
    }

    /** What stands at none of the places, is no head and not the face. */
    static String rest() {
        String rest = TEXT.replaceAll("(?s)```java.*?```", " ").replaceAll("(?m)^#.*", " ")
                .replaceAll("(?m)^(`[^`]*`:|[0-9]+\\. )", " ");
        rest = plain(rest);
        // The places stand in the document's order: each one is at the head of what is left.
        for (String told : PLACES.values()) {
            rest = rest.startsWith(told) ? rest.substring(told.length()).trim() : rest;
        }
        return rest;
    }

    private static String text() {
        try {
            return Files.readString(Path.of("../shared/DOC.md"));
        } catch (IOException e) {
            throw new UncheckedIOException(e);
        }
    }

    private static Map<String, String> read() {
        Map<String, String> places = new LinkedHashMap<>();
        places.put("What it is", plain(found("(?s)\n## What it is\n+(.*?)\n\n")));
        places.put("Use", plain(found("(?s)\n(An object is used .*?)\n")));
        String terms = found("(?s)\n## Terms\n(.*?)\nThe constants: ");
        Matcher term = Pattern.compile("(?ms)^([0-9]+)\\. (.*?)(?=^[0-9]+\\. |\\z)").matcher(terms);
        while (term.find()) {
            places.put("Term " + term.group(1), plain(term.group(2)));
        }
        places.put("Constants", plain(found("(?s)\n(The constants: .*?)\n")));
        Matcher promise = Pattern.compile("(?ms)^## Promise ([0-9]+): .*?\n(.*?)(?=^## )").matcher(TEXT);
        while (promise.find()) {
            places.put("Promise " + promise.group(1), plain(promise.group(2).replaceFirst("(?s)`[^`]*`:", "")));
        }
        places.put("Not promised", plain(found("(?s)\n## Not promised\n(.*)")));
        return places;
    }

    private static String found(String pattern) {
        Matcher m = Pattern.compile(pattern).matcher(TEXT);
        return m.find() ? m.group(1) : "";
    }
}
