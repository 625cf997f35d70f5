import java.io.ByteArrayOutputStream;
import java.io.IOException;
import java.io.PrintStream;
import java.nio.charset.StandardCharsets;
import java.nio.file.Files;
import java.nio.file.Path;
import java.util.ArrayList;
import java.util.List;
import java.util.regex.Matcher;
import java.util.regex.Pattern;

/** README.md tells no untruth: its program is the example that is compiled, and prints the answers told there. */
public final class ReadmeTest {
    private static final Checks CHECKS = new Checks("ReadmeTest");
    private static final int FEWEST_ANSWERS = 30;

    public static void main(String[] args) throws IOException {
        String page = Files.readString(Path.of("README.md"));
        String program = program(page);
        same("README's program and src/example/java/Example.java", bare(program),
                bare(Files.readString(Path.of("src/example/java/Example.java"))));
        List<String> due = due(program);
        CHECKS.is("some answers are told", due.size() >= FEWEST_ANSWERS, true);
        CHECKS.is("each printed call tells its answer", found("System\\.out\\.println", program).size(), due.size());
        same("what the example prints and what README tells", printed(), due);
        names(page);
        everyTestIsTold(page);
        CHECKS.end();
    }

    /** The pieces, one behind the other. */
    private static String program(String page) {
        StringBuilder program = new StringBuilder();
        Matcher piece = Pattern.compile("(?s)```java\n(.*?)```").matcher(page);
        while (piece.find()) {
            program.append(piece.group(1));
        }
        return program.toString();
    }

    /** The lines that are not empty: between the pieces there is prose instead. */
    private static List<String> bare(String program) {
        List<String> lines = new ArrayList<>();
        for (String line : program.split("\n")) {
            if (!line.isBlank()) {
                lines.add(line);
            }
        }
        return lines;
    }

    /** The answers told behind the calls. */
    private static List<String> due(String program) {
        return found("System\\.out\\.println\\(desk\\..*\\); +// (-?\\d+|true|false)(?![\\w])", program);
    }

    private static List<String> found(String pattern, String text) {
        List<String> found = new ArrayList<>();
        Matcher m = Pattern.compile(pattern).matcher(text);
        while (m.find()) {
            found.add(m.group(m.groupCount()));
        }
        return found;
    }

    private static List<String> printed() {
        ByteArrayOutputStream bytes = new ByteArrayOutputStream();
        PrintStream before = System.out;
        System.setOut(new PrintStream(bytes, true, StandardCharsets.UTF_8));
        try {
            Example.main(new String[0]);
        } finally {
            System.setOut(before);
        }
        return bytes.toString(StandardCharsets.UTF_8).lines().toList();
    }

    private static void same(String what, List<String> got, List<String> due) {
        CHECKS.is(what + ": lines", got.size(), due.size());
        for (int k = 0; k < Math.min(got.size(), due.size()); k++) {
            CHECKS.is(what + ": '" + got.get(k) + "', due is '" + due.get(k) + "'", got.get(k).equals(due.get(k)), true);
        }
    }

    /** Tests, classes and files that are named are there. */
    private static void names(String page) {
        for (String test : found("\\b(\\w+Test)\\b", page)) {
            CHECKS.is(test + " is there", Files.exists(Path.of("src/test/java/" + test + ".java")), true);
        }
        CHECKS.is("the shared test is there", Files.exists(Path.of("../shared/tests/PretendDeskRuns.java")), true);
        for (String file : found("`((?:\\.\\./shared|src|\\.ci)/[\\w/.]+)`", page)) {
            CHECKS.is(file + " is there", Files.exists(Path.of(file)), true);
        }
        CHECKS.is(".ci/run can be run", Files.isExecutable(Path.of(".ci/run")), true);
    }

    /** Of two tests `AaTest` .. `ZzTest` those between are told, too: they are one row of names. */
    private static void everyTestIsTold(String page) throws IOException {
        List<String> told = found("\\b(\\w+Test)\\b", page);
        List<String> rows = List.of("Tape", "Name", "Page", "Far", "Sign", "Room", "Marks", "Forger", "Ring", "Program",
                "Letter", "Picture", "Image");
        for (String row : rows) {
            told.add(row + "Test");
            told.add(row + "EdgeTest");
        }
        try (var files = Files.list(Path.of("src/test/java"))) {
            for (Path file : files.toList()) {
                String name = file.getFileName().toString().replace(".java", "");
                CHECKS.is(name + " is told", !name.endsWith("Test") || told.contains(name), true);
            }
        }
    }
}
