import java.io.IOException;
import java.lang.reflect.Array;
import java.lang.reflect.Field;
import java.lang.reflect.Modifier;
import java.util.ArrayList;
import java.util.Arrays;
import java.util.HashMap;
import java.util.IdentityHashMap;
import java.util.List;
import java.util.Map;
import java.util.Set;

/** ../shared/LANGUAGE.md, as far as the compiled class shows whether its rules are kept. */
public final class RulesTest {
    private static final Checks CHECKS = new Checks("RulesTest");
    private static final int DEEPEST = 8;
    // Of one object and its images; a run of all calls has room for some 600,000 and 7.3 million.
    private static final int MOST_OBJECTS = 1_000;
    private static final int MOST_ELEMENTS = 30_000;
    // athrow, monitorenter, monitorexit, invokedynamic, frem, drem
    private static final Set<Integer> NO_ORDERS = Set.of(191, 194, 195, 186, 114, 115);
    // Lists may be used, too, but are not: who needs them puts them here.
    private static final Set<String> LIBRARY = Set.of(
            "java/lang/Object.<init>()V",
            "java/lang/String.length()I", "java/lang/String.charAt(I)C", "java/lang/String.isEmpty()Z",
            "java/lang/String.equals(Ljava/lang/Object;)Z", "java/lang/String.indexOf(I)I",
            "java/lang/String.substring(I)Ljava/lang/String;", "java/lang/String.substring(II)Ljava/lang/String;",
            "java/lang/String.toCharArray()[C", "java/lang/String.<init>([C)V",
            "java/lang/StringBuilder.<init>()V", "java/lang/StringBuilder.append(C)Ljava/lang/StringBuilder;",
            "java/lang/StringBuilder.append(I)Ljava/lang/StringBuilder;",
            "java/lang/StringBuilder.append(Ljava/lang/String;)Ljava/lang/StringBuilder;",
            "java/lang/StringBuilder.charAt(I)C", "java/lang/StringBuilder.setCharAt(IC)V",
            "java/lang/StringBuilder.setLength(I)V", "java/lang/StringBuilder.length()I",
            "java/lang/StringBuilder.deleteCharAt(I)Ljava/lang/StringBuilder;",
            "java/lang/StringBuilder.reverse()Ljava/lang/StringBuilder;",
            "java/lang/StringBuilder.toString()Ljava/lang/String;",
            "java/lang/System.arraycopy(Ljava/lang/Object;ILjava/lang/Object;II)V");

    private static final Map<String, Compiled.Body> BODIES = new HashMap<>();
    private static final Map<String, Integer> DEPTHS = new HashMap<>();

    public static void main(String[] args) throws IOException, ReflectiveOperationException {
        List<Class<?>> classes = new ArrayList<>(List.of(PretendDesk.class.getDeclaredClasses()));
        classes.add(PretendDesk.class);
        List<Compiled> all = new ArrayList<>();
        for (Class<?> each : classes) {
            Compiled compiled = new Compiled(each);
            all.add(compiled);
            for (Compiled.Body body : compiled.bodies) {
                BODIES.put(body.name(), body);
            }
        }
        CHECKS.is("bodies are found", BODIES.size() > 150, true);
        for (Compiled each : all) {
            fields(each);
            for (Compiled.Body body : each.bodies) {
                library(body);
                makes(body);
                CHECKS.is(body.name() + " is deep by some calls", depth(body.name(), 0) <= DEEPEST, true);
            }
        }
        room();
        CHECKS.end();
    }

    /** Rules 3 and 5. */
    private static void fields(Compiled of) {
        for (Compiled.Member field : of.fields) {
            String what = of.name + "." + field.name() + " of type " + field.type();
            boolean isNumber = field.type().matches("\\[?\\[?[IJSBCZDF]");
            boolean isOwn = field.type().matches("\\[?LPretendDesk\\$\\w+;");
            boolean isText = field.type().matches("Ljava/lang/(String|StringBuilder);");
            CHECKS.is(what + " is of a type that may be", isNumber || isOwn || isText, true);
            boolean isStatic = (field.how() & Modifier.STATIC) != 0;
            boolean isConstant = (field.how() & Modifier.FINAL) != 0 && field.type().matches("[IJZC]|Ljava/lang/String;");
            CHECKS.is(what + " is a constant if it is static", !isStatic || isConstant, true);
        }
        for (Compiled.Body body : of.bodies) {
            CHECKS.is(body.name() + " is no static block", body.name().contains("<clinit>"), false);
        }
    }

    /** Rules 4 and 6: what is called stands in the list, and nothing is thrown or caught. */
    private static void library(Compiled.Body body) {
        for (String call : body.calls()) {
            boolean isOwn = call.startsWith("PretendDesk");
            boolean isReckoning = call.matches("java/lang/(Integer|Long|Math)\\.\\w+\\([IJ]*\\)[IJ]") && !call.contains("Exact");
            CHECKS.is(body.name() + " calls " + call, isOwn || isReckoning || LIBRARY.contains(call), true);
        }
        for (int order : body.orders()) {
            CHECKS.is(body.name() + " has the order " + order, NO_ORDERS.contains(order), false);
        }
        CHECKS.is(body.name() + " catches", body.caught(), 0);
    }

    /** Rule 12: rows are made in constructors; a call makes a name's text and an image alone. */
    private static void makes(Compiled.Body body) {
        if (body.name().contains(".<init>(")) {
            return;
        }
        for (String made : body.makes()) {
            CHECKS.is(body.name() + " makes " + made, body.name().equals("PretendDesk.image(I)Z")
                    && made.equals("PretendDesk$Told"), true);
        }
        for (String call : body.calls()) {
            boolean makes = call.matches("java/lang/String.*\\)(\\[C|Ljava/lang/String;)");
            CHECKS.is(body.name() + " calls " + call, makes && !body.name().startsWith("PretendDesk$Tape.row("), false);
        }
    }

    /** Rules 8 and 11: how many calls stand open at once, at most; a call of itself would have no end. */
    private static int depth(String method, int above) {
        Compiled.Body body = BODIES.get(method);
        if (body == null || above > DEEPEST) {
            return body == null ? 0 : DEEPEST + 1;
        }
        Integer known = DEPTHS.get(method);
        if (known != null) {
            return known;
        }
        int most = 0;
        for (String call : body.calls()) {
            most = Math.max(most, depth(call, above + 1));
        }
        DEPTHS.put(method, most + 1);
        return most + 1;
    }

    /** All that an object holds, with images and all told; behind many calls it holds the very same. */
    private static void room() throws ReflectiveOperationException {
        PretendDesk x = Desks.FULL.make();
        for (int k = 0; k < 3; k++) {
            x.image(k);
        }
        Map<Object, Long> held = held(x);
        long elements = held.values().stream().mapToLong(Long::longValue).sum();
        CHECKS.is("objects: " + held.size(), held.size() <= MOST_OBJECTS, true);
        CHECKS.is("fields and elements: " + elements, elements <= MOST_ELEMENTS, true);
        for (int k = 0; k < 100; k++) {
            x.pass(0, k, 50, 0, 0);
            x.fit(k % 17, 0);
            x.image(k % 3);
        }
        Map<Object, Long> behind = held(x);
        CHECKS.is("objects behind 300 calls", behind.size(), held.size());
        for (Map.Entry<Object, Long> each : behind.entrySet()) {
            String what = each.getKey().getClass().getName();
            CHECKS.is("elements of the same " + what, each.getValue(), held.getOrDefault(each.getKey(), -1L));
        }
    }

    /** Each object that is held, and how many fields or elements it has. */
    private static Map<Object, Long> held(Object from) throws ReflectiveOperationException {
        Map<Object, Long> held = new IdentityHashMap<>();
        List<Object> open = new ArrayList<>(List.of(from));
        while (!open.isEmpty()) {
            Object each = open.remove(open.size() - 1);
            List<Object> parts = new ArrayList<>();
            held.put(each, each.getClass().isArray() ? ofArray(each, parts) : ofObject(each, parts));
            for (Object part : parts) {
                if (part != null && !held.containsKey(part)) {
                    open.add(part);
                }
            }
        }
        return held;
    }

    private static long ofArray(Object array, List<Object> parts) {
        if (array instanceof Object[] objects) {
            parts.addAll(Arrays.asList(objects));
        }
        return Array.getLength(array);
    }

    private static long ofObject(Object each, List<Object> parts) throws ReflectiveOperationException {
        if (each instanceof CharSequence text) {
            return 2 + text.length();
        }
        long fields = 0;
        for (Field field : each.getClass().getDeclaredFields()) {
            if (!Modifier.isStatic(field.getModifiers())) {
                fields++;
                field.setAccessible(true);
                if (!field.getType().isPrimitive()) {
                    parts.add(field.get(each));
                }
            }
        }
        return fields;
    }
}
