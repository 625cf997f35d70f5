import java.io.IOException;
import java.lang.reflect.Constructor;
import java.lang.reflect.Field;
import java.lang.reflect.Method;
import java.lang.reflect.Modifier;
import java.nio.file.Files;
import java.nio.file.Path;
import java.util.ArrayList;
import java.util.Collections;
import java.util.List;
import java.util.regex.Matcher;
import java.util.regex.Pattern;

/** The face of the class is that of the document, and the file keeps to ../shared/LANGUAGE.md where a test can tell. */
public final class FaceTest {
    private static final Checks CHECKS = new Checks("FaceTest");

    public static void main(String[] args) throws IOException {
        rows();
        face();
        classes();
        words();
        CHECKS.end();
    }

    /** Each row of the document's face stands in the file as it stands there, and at the head of its promise. */
    private static void rows() throws IOException {
        String text = Files.readString(Path.of("src/main/java/PretendDesk.java"));
        List<String> face = Doc.face();
        CHECKS.is("rows of the face", face.size(), 1 + 1 + 54 + 1);
        CHECKS.is("its first row", face.get(0).equals("public final class PretendDesk {"), true);
        CHECKS.is("the class", text.contains("\n" + face.get(0) + "\n"), true);
        CHECKS.is("its constant", text.contains("\n    " + face.get(1) + "\n"), true);
        List<String> heads = Doc.heads();
        CHECKS.is("heads of promises", heads.size(), 3 * 54);
        for (int k = 0; k < 54 && k + 2 < face.size() && heads.size() == 3 * 54; k++) {
            String row = face.get(k + 2);
            CHECKS.is("the file has " + row, text.contains("\n    " + row.replace(";", " {") + "\n"), true);
            CHECKS.is("number of " + row, Integer.parseInt(heads.get(3 * k)), k + 1);
            CHECKS.is("the promise of " + row, row.equals("public " + heads.get(3 * k + 2) + ";"), true);
            boolean named = k == 0 || row.contains(" " + heads.get(3 * k + 1) + "(");
            CHECKS.is("the name of " + row, named, true);
        }
    }

    private static void face() {
        List<String> due = new ArrayList<>();
        Pattern head = Pattern.compile("public (int|boolean) (\\w+)\\((.*)\\);");
        for (String row : Doc.face()) {
            Matcher m = head.matcher(row);
            if (m.matches()) {
                due.add(m.group(1) + " " + m.group(2) + "(" + m.group(3).replaceAll(" \\w+(,|$)", "$1") + ")");
            }
        }
        List<String> got = new ArrayList<>();
        List<String> names = names();
        for (Method method : PretendDesk.class.getDeclaredMethods()) {
            if (Modifier.isPublic(method.getModifiers())) {
                List<String> types = new ArrayList<>();
                for (Class<?> type : method.getParameterTypes()) {
                    types.add(type.getName());
                }
                got.add(method.getReturnType() + " " + method.getName() + "(" + String.join(", ", types) + ")");
            }
        }
        Collections.sort(due);
        Collections.sort(got);
        CHECKS.is("53 methods", due.size(), 53);
        CHECKS.is("the methods " + got + ", due are " + due, got.equals(due), true);
        for (Method method : PretendDesk.class.getDeclaredMethods()) {
            int is = method.getModifiers();
            CHECKS.is(method.getName(), Modifier.isPublic(is) || Modifier.isPrivate(is), true);
            CHECKS.is("a public name: " + method, Modifier.isPrivate(is) && names.contains(method.getName()), false);
        }
        for (Field field : PretendDesk.class.getDeclaredFields()) {
            boolean told = field.getName().equals("NONE");
            CHECKS.is(field.getName(), told ? Modifier.isPublic(field.getModifiers()) : Modifier.isPrivate(field.getModifiers()), true);
        }
        Constructor<?>[] made = PretendDesk.class.getDeclaredConstructors();
        CHECKS.is("one constructor", made.length, 1);
        CHECKS.is("it is public", Modifier.isPublic(made[0].getModifiers()) && made[0].getParameterCount() == 0, true);
        CHECKS.is("final", Modifier.isFinal(PretendDesk.class.getModifiers()), true);
        CHECKS.is("NONE", PretendDesk.NONE, -1);
    }

    private static List<String> names() {
        List<String> names = new ArrayList<>();
        for (Method method : PretendDesk.class.getDeclaredMethods()) {
            if (Modifier.isPublic(method.getModifiers())) {
                names.add(method.getName());
            }
        }
        return names;
    }

    private static void classes() {
        Class<?>[] inside = PretendDesk.class.getDeclaredClasses();
        CHECKS.is("some twelve classes", inside.length <= 11, true);
        for (Class<?> each : inside) {
            CHECKS.is(each + " is static", Modifier.isStatic(each.getModifiers()), true);
            CHECKS.is(each + " is hidden", Modifier.isPublic(each.getModifiers()) || Modifier.isProtected(each.getModifiers()), false);
            int fields = 0;
            for (Field field : each.getDeclaredFields()) {
                fields += Modifier.isStatic(field.getModifiers()) ? 0 : 1;
                boolean state = Modifier.isStatic(field.getModifiers()) && !Modifier.isFinal(field.getModifiers());
                CHECKS.is(field + " is static state", state, false);
            }
            CHECKS.is(each + " has some twenty fields", fields <= 20, true);
            for (Method method : each.getDeclaredMethods()) {
                CHECKS.is("a public name: " + method, names().contains(method.getName()), false);
                CHECKS.is(method + " has at most seven parameters", method.getParameterCount() <= 7, true);
            }
        }
    }

    /** Words that the rules leave out, and methods that are too long. */
    private static void words() throws IOException {
        String text = Files.readString(Path.of("src/main/java/PretendDesk.java"));
        String bare = text.replaceAll("(?s)/\\*.*?\\*/", "").replaceAll("//.*", "");
        String[] none = {"throw", "throws", "try", "catch", "synchronized", "assert", "import", "package", "instanceof", "->",
            "::", "System.out", "Random", "Thread", "native", "volatile", "transient", "Object", "hashCode", "var",
            "float", "double", "Exact", "protected", "String.format", "\" +", "+ \""};
        for (String word : none) {
            boolean letters = word.matches("\\w+");
            Matcher m = Pattern.compile(letters ? "\\b" + word + "\\b" : Pattern.quote(word)).matcher(bare);
            CHECKS.is("'" + word + "' is there", m.find(), false);
        }
        for (char sign : text.toCharArray()) {
            if (sign > 126) {
                CHECKS.is("a sign " + (int) sign, true, false);
            }
        }
        int from = -1;
        String[] lines = text.split("\n");
        for (int k = 0; k < lines.length; k++) {
            if (lines[k].matches("( {4}| {8})[^ ].*\\(.*\\) \\{") && !lines[k].contains("class ")) {
                from = k;
            }
            if (from >= 0 && lines[k].equals(lines[from].replaceAll("[^ ].*", "") + "}")) {
                CHECKS.is(lines[from] + " is too long", k - from + 1 > 60, false);
                from = -1;
            }
            CHECKS.is("a long line " + (k + 1), lines[k].length() > 110, false);
        }
    }
}
