import java.util.function.Consumer;

/** Counts answers that are not as due, and puts texts on a desk's tape. */
final class Checks {
    private final String test;
    private int asked;
    private int wrong;

    Checks(String test) {
        this.test = test;
    }

    void is(String call, long got, long due) {
        asked++;
        if (got != due) {
            wrong++;
            System.out.println(test + ": " + call + " answered " + got + ", due is " + due);
        }
    }

    void is(String call, boolean got, boolean due) {
        is(call, got ? 1 : 0, due ? 1 : 0);
    }

    /** The FAULT and its place. */
    void fault(String call, PretendDesk desk, int fault, int place) {
        is(call + " fault(0)", desk.fault(0), fault);
        is(call + " fault(1)", desk.fault(1), place);
    }

    void end() {
        System.out.println(test + ": " + asked + " answers, " + wrong + " wrong");
        if (wrong != 0 || asked == 0) {
            System.exit(1);
        }
    }

    /** Puts a text, of at most 480 bytes, on an empty tape, and answers the desk. */
    static PretendDesk tell(PretendDesk desk, String text) {
        desk.end(0);
        for (int from = 0; from < text.length(); from += 20) {
            desk.feed(four(text, from), four(text, from + 4), four(text, from + 8),
                    four(text, from + 12), four(text, from + 16));
        }
        desk.end(text.length());
        return desk;
    }

    /** The same for the plain Model. */
    static void tell(Model model, String text) {
        model.end(0);
        for (int from = 0; from < text.length(); from += 20) {
            model.feed(four(text, from), four(text, from + 4), four(text, from + 8),
                    four(text, from + 12), four(text, from + 16));
        }
        model.end(text.length());
    }

    /** Every start of a text, and the text with each byte left out, another one, or one more before it. */
    static void others(String text, String signs, Consumer<String> asked) {
        for (int at = 0; at <= text.length(); at++) {
            String start = text.substring(0, at);
            String rest = text.substring(Math.min(at + 1, text.length()));
            asked.accept(start);
            asked.accept(start + rest);
            for (char sign : signs.toCharArray()) {
                asked.accept(start + sign + text.substring(at));
                asked.accept(start + sign + rest);
            }
        }
    }

    static int four(String text, int from) {
        int number = 0;
        for (int i = from; i < from + 4; i++) {
            number = number << 8 | (i < text.length() ? text.charAt(i) : 0);
        }
        return number;
    }

    static int house(PretendDesk desk, String name) {
        return tell(desk, name).house();
    }

    static int own(PretendDesk desk, int house, String text) {
        return tell(desk, text).own(house);
    }

    static int page(PretendDesk desk, String text) {
        return tell(desk, text).page();
    }

    static boolean name(PretendDesk desk, int page, String name) {
        return tell(desk, name).name(page);
    }

    static int program(PretendDesk desk, int page, String text) {
        return tell(desk, text).program(page);
    }

    static int word(PretendDesk desk, String word, int meaning) {
        return tell(desk, word).word(meaning);
    }

    static int letter(PretendDesk desk, String text) {
        return tell(desk, text).letter();
    }
}
