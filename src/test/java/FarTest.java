import java.util.ArrayList;
import java.util.HashMap;
import java.util.List;
import java.util.Map;
import java.util.PriorityQueue;

/** Promises 15, 16, 17, 19: far, look, like, strange. */
public final class FarTest {
    private static final Checks CHECKS = new Checks("FarTest");

    public static void main(String[] args) {
        far();
        leastPriceOfChanges();
        look();
        like();
        strange();
        CHECKS.end();
    }

    private static int far(String a, String b) {
        PretendDesk x = new PretendDesk();
        Checks.page(x, a);
        Checks.page(x, b);
        CHECKS.is("both ways round", x.far(1, 0, 0, 0), x.far(0, 1, 0, 0));
        return x.far(0, 1, 0, 0);
    }

    private static void far() {
        CHECKS.is("the same", far("box(pin;pass;)", "box(pin;pass;)"), 0);
        CHECKS.is("a colour", far("box(pin;)", "box(pin 3;)"), 1);
        CHECKS.is("a kind", far("box(pin;)", "box(card;)"), 3);
        CHECKS.is("both", far("box(pin;)", "box(card 1;)"), 4);
        CHECKS.is("one put in", far("box(pin;)", "box(pin;text;)"), 2);
        CHECKS.is("one put round", far("box(pin;text;)", "box(form(pin;text;))"), 2);
        CHECKS.is("the first box is taken out", far("box(pin;)", "pin;"), 2);
        CHECKS.is("the first box, others come", far("box(pin;text;)", "pin(text;)"), 5);
        CHECKS.is("order", far("box(pin;text;)", "box(text;pin;)"), 4);
        CHECKS.is("put round some", far("box(pin;text;link;)", "box(pin;form(text;link;))"), 2);
        CHECKS.is("moved to another one", far("box(form(pin;)form 1;)", "box(form;form 1(pin;))"), 4);
        CHECKS.is("deep", far("box(box(box(box(box(box;)))))", "box;"), 10);
        PretendDesk x = new PretendDesk();
        Checks.page(x, "box land 1(pin;text;)");
        Checks.page(x, "box(pin;text day 3;)");
        CHECKS.is("an empty one", x.far(0, 1, 0, 0), 4);
        CHECKS.is("a later day", x.far(0, 1, 0, 3), 6);
        CHECKS.is("another land", x.far(0, 1, 1, 0), 2);
        CHECKS.is("both", x.far(0, 1, 1, 3), 0);
        CHECKS.is("itself", x.far(0, 0, 1, 3), 0);
        CHECKS.is("page 2", x.far(0, 2, 0, 0), -1);
        CHECKS.is("page 2", x.far(2, 0, 0, 0), -1);
        CHECKS.is("page -1", x.far(-1, 0, 0, 0), -1);
        CHECKS.is("page -1", x.far(0, -1, 0, 0), -1);
        CHECKS.is("land 4", x.far(0, 1, 4, 0), -1);
        CHECKS.is("land -1", x.far(0, 1, -1, 0), -1);
        CHECKS.is("day 100", x.far(0, 1, 0, 100), -1);
        CHECKS.is("day -1", x.far(0, 1, 0, -1), -1);
    }

    // ---- FAR as the words tell it: changes, one behind the other, of the least price together

    /** A row of trees is a text: a letter for a BOX, then those in it within ( and ). */
    private static void leastPriceOfChanges() {
        List<String> rows = new ArrayList<>();
        for (int boxes = 0; boxes <= 4; boxes++) {
            rows.addAll(rows(boxes));
        }
        List<String> trees = new ArrayList<>();
        for (String row : rows) {
            if (isTree(row)) {
                trees.add(row);
            }
        }
        Map<String, Map<String, Integer>> changes = changes(rows);
        for (int from = 0; from < trees.size(); from += 7) {
            Map<String, Integer> prices = prices(trees.get(from), changes);
            PretendDesk x = new PretendDesk();
            Checks.page(x, text(trees.get(from)));
            x.image(0);
            for (int to = from % 5; to < trees.size(); to += 5) {
                x.again(0);
                Checks.page(x, text(trees.get(to)));
                CHECKS.is(trees.get(from) + " to " + trees.get(to), x.far(0, 1, 0, 0), prices.get(trees.get(to)));
                x = to % 3 == 0 ? anew(trees.get(from)) : x;
            }
        }
    }

    private static PretendDesk anew(String tree) {
        PretendDesk x = new PretendDesk();
        Checks.page(x, text(tree));
        x.image(0);
        return x;
    }

    private static List<String> rows(int boxes) {
        List<String> rows = new ArrayList<>();
        if (boxes == 0) {
            rows.add("");
        }
        for (int inside = 0; inside < boxes; inside++) {
            for (String in : rows(inside)) {
                for (String rest : rows(boxes - 1 - inside)) {
                    for (String kind : List.of("a", "b", "c")) {
                        rows.add(kind + "(" + in + ")" + rest);
                    }
                }
            }
        }
        return rows;
    }

    private static int close(String row, int open) {
        int depth = 0;
        for (int i = open; i < row.length(); i++) {
            depth += row.charAt(i) == '(' ? 1 : row.charAt(i) == ')' ? -1 : 0;
            if (depth == 0) {
                return i;
            }
        }
        return -1;
    }

    private static boolean isTree(String row) {
        return row.length() > 1 && close(row, 1) == row.length() - 1;
    }

    /** All single changes: a BOX taken out (and so put in, the other way round) or its sort another one. */
    private static Map<String, Map<String, Integer>> changes(List<String> rows) {
        Map<String, Map<String, Integer>> changes = new HashMap<>();
        for (String row : rows) {
            changes.put(row, new HashMap<>());
        }
        for (String row : rows) {
            for (int i = 0; i < row.length(); i++) {
                if (!Character.isLetter(row.charAt(i))) {
                    continue;
                }
                int close = close(row, i + 1);
                String without = row.substring(0, i) + row.substring(i + 2, close) + row.substring(close + 1);
                changes.get(row).put(without, 2);
                changes.get(without).put(row, 2);
                for (char kind : "abc".toCharArray()) {
                    String other = row.substring(0, i) + kind + row.substring(i + 1);
                    if (kind != row.charAt(i)) {
                        changes.get(row).put(other, price(row.charAt(i), kind));
                    }
                }
            }
        }
        return changes;
    }

    /** a is a box, b a box of COLOUR 1, c a pin. */
    private static int price(char from, char to) {
        if (from == to) {
            return 0;
        }
        return from != 'c' && to != 'c' ? 1 : from != 'b' && to != 'b' ? 3 : 4;
    }

    private static String text(String row) {
        return row.replace("a", "box").replace("b(", "box 1(").replace("boxox", "box").replace("c", "pin");
    }

    private static Map<String, Integer> prices(String from, Map<String, Map<String, Integer>> changes) {
        Map<String, Integer> prices = new HashMap<>();
        PriorityQueue<Map.Entry<String, Integer>> open = new PriorityQueue<>((p, q) -> p.getValue() - q.getValue());
        open.add(Map.entry(from, 0));
        while (!open.isEmpty()) {
            Map.Entry<String, Integer> least = open.poll();
            if (prices.putIfAbsent(least.getKey(), least.getValue()) == null) {
                changes.get(least.getKey()).forEach((to, price) -> open.add(Map.entry(to, least.getValue() + price)));
            }
        }
        return prices;
    }

    // ---- houses

    private static PretendDesk threeHouses() {
        PretendDesk x = new PretendDesk();
        Checks.house(x, "none");
        Checks.house(x, "bank");
        Checks.own(x, 1, "box(pin;pass;)");
        Checks.own(x, 1, "form(text land 2;link day 8;)");
        Checks.house(x, "shop");
        Checks.own(x, 2, "box(pin 1;pass;)");
        Checks.page(x, "box(pin;pass 1;)");
        Checks.page(x, "form(link day 4;)");
        return x;
    }

    private static void look() {
        PretendDesk x = threeHouses();
        CHECKS.is("it has none", x.look(0, 0, 0, 0), 999);
        CHECKS.is("look(0, 1)", x.look(0, 1, 0, 0), 1);
        CHECKS.is("look(0, 2)", x.look(0, 2, 0, 0), 2);
        CHECKS.is("the least of two", x.look(1, 1, 0, 0), 0);
        CHECKS.is("opened likewise, a day", x.look(1, 1, 0, 4), 2);
        CHECKS.is("opened likewise, both", x.look(1, 1, 0, 8), 0);
        CHECKS.is("opened likewise, a land", x.look(1, 1, 2, 0), 2);
        CHECKS.is("house 3", x.look(0, 3, 0, 0), -1);
        CHECKS.is("house -1", x.look(0, -1, 0, 0), -1);
        CHECKS.is("page 2", x.look(2, 0, 0, 0), -1);
        CHECKS.is("page -1", x.look(-1, 0, 0, 0), -1);
        CHECKS.is("land 4", x.look(0, 0, 4, 0), -1);
        CHECKS.is("land -1", x.look(0, 0, -1, 0), -1);
        CHECKS.is("day 100", x.look(0, 0, 0, 100), -1);
        CHECKS.is("day -1", x.look(0, 0, 0, -1), -1);
    }

    private static void like() {
        PretendDesk x = threeHouses();
        CHECKS.is("like(0)", x.like(0, 0, 0), 1);
        CHECKS.is("like(1)", x.like(1, 0, 0), 1);
        Checks.page(x, "box(pin 2;pass;)");
        CHECKS.is("of several the least", x.like(2, 0, 0), 1);
        Checks.page(x, "box(pin 1;pass day 9;)");
        CHECKS.is("like(3), another day", x.like(3, 0, 9), 2);
        CHECKS.is("page 4", x.like(4, 0, 0), -1);
        CHECKS.is("page -1", x.like(-1, 0, 0), -1);
        CHECKS.is("land 4", x.like(0, 4, 0), -1);
        CHECKS.is("day 100", x.like(0, 0, 100), -1);
        x = new PretendDesk();
        Checks.page(x, "box;");
        CHECKS.is("no houses", x.like(0, 0, 0), -1);
        Checks.house(x, "a");
        Checks.house(x, "b");
        CHECKS.is("houses without pages", x.like(0, 0, 0), 0);
        Checks.own(x, 1, "form(form(form(form;)))");
        CHECKS.is("a house with a page", x.like(0, 0, 0), 1);
    }

    private static void strange() {
        PretendDesk x = new PretendDesk();
        CHECKS.is("none", x.strange(), -1);
        Checks.house(x, "a");
        Checks.own(x, 0, "box(pin;)");
        Checks.own(x, 0, "box(pin;pin;pin;)");
        CHECKS.is("of two HOUSES", x.strange(), -1);
        Checks.house(x, "b");
        CHECKS.is("that have PAGES", x.strange(), -1);
        Checks.own(x, 1, "form(text;link;)");
        CHECKS.is("the first two", x.strange(), 8);
        Checks.house(x, "c");
        CHECKS.is("one without", x.strange(), 8);
        Checks.own(x, 2, "box 1(pin;text day 1;text land 1;)");
        CHECKS.is("LAND 0 on DAY 0", x.strange(), 1);
        Checks.own(x, 2, "form(text;link 1;)");
        CHECKS.is("the least", x.strange(), 1);
        Checks.own(x, 1, "box(pin;)");
        CHECKS.is("none at all", x.strange(), 0);
        x = new PretendDesk();
        Checks.house(x, "a");
        Checks.own(x, 0, "box(pin land 0;text day 1;link land 1;)");
        Checks.house(x, "b");
        Checks.own(x, 1, "box(pin;)");
        CHECKS.is("LAND 0 on DAY 0", x.strange(), 0);
    }
}
