import java.util.ArrayList;
import java.util.Arrays;
import java.util.HashMap;
import java.util.List;
import java.util.Map;
import java.util.TreeSet;
import java.util.regex.Matcher;
import java.util.regex.Pattern;

/**
 * A second desk, written from the document alone in the plainest way (lists, recursion, all tries),
 * to hold the answers of PretendDesk against.
 */
final class Model implements Cloneable {
    static final int NONE = -1;
    static final List<String> KINDS = List.of("box", "form", "pass", "card", "pin", "logo", "text", "link");
    private static final Pattern TOKEN = Pattern.compile("[a-z]+|[0-9]+|[();<]");

    /** A BOX of a text. */
    static final class Box {
        int kind;
        int colour;
        int within = NONE;
        int land = NONE;
        int day;

        Box copy() {
            Box b = new Box();
            b.kind = kind;
            b.colour = colour;
            b.within = within;
            b.land = land;
            b.day = day;
            return b;
        }
    }

    /** A BOX that is shown, with those in it. */
    record Tree(int kind, int colour, List<Tree> in) { }

    record Change(int sort, int box, int n, int price) { }

    record Case(int page, int day, boolean pretends) { }

    record View(int look, int like, int ask, boolean elsewhere, int age) { }

    static final class House {
        String name;
        List<List<Box>> pages = new ArrayList<>();
        int picture;

        House copy() {
            House h = new House();
            h.name = name;
            h.pages = new ArrayList<>(pages);
            h.picture = picture;
            return h;
        }
    }

    static final class Came {
        List<Box> text;
        String name;
        int since;
        int pieces;
        int picture;
        List<Change> changes = new ArrayList<>();
        List<List<String>> program = new ArrayList<>();

        Came copy() {
            Came c = new Came();
            c.text = text;
            c.name = name;
            c.since = since;
            c.pieces = pieces;
            c.picture = picture;
            c.changes = new ArrayList<>(changes);
            c.program = program;
            return c;
        }
    }

    private String tape = "";
    private int fault;
    private int place = NONE;
    private List<House> houses = new ArrayList<>();
    private List<Came> pages = new ArrayList<>();
    private List<Case> cases = new ArrayList<>();
    private Map<String, Integer> alike = new HashMap<>();
    private int[] worth = {0, 0, 50, 60, 70, 0, 0, 0};
    private int[] marks = {10, 40, 30};
    private Map<Integer, Integer> relays = new HashMap<>();
    private Map<Integer, Integer> owners = new HashMap<>();
    private List<String> words = new ArrayList<>();
    private List<Integer> meanings = new ArrayList<>();
    private List<int[]> patterns = new ArrayList<>();
    private String letter = "";
    private Map<Integer, Model> images = new HashMap<>();

    private void take(Model from) {
        tape = from.tape;
        fault = from.fault;
        place = from.place;
        houses = new ArrayList<>();
        for (House h : from.houses) {
            houses.add(h.copy());
        }
        pages = new ArrayList<>();
        for (Came c : from.pages) {
            pages.add(c.copy());
        }
        cases = new ArrayList<>(from.cases);
        alike = new HashMap<>(from.alike);
        worth = from.worth.clone();
        marks = from.marks.clone();
        relays = new HashMap<>(from.relays);
        owners = new HashMap<>(from.owners);
        words = new ArrayList<>(from.words);
        meanings = new ArrayList<>(from.meanings);
        patterns = new ArrayList<>(from.patterns);
        letter = from.letter;
    }

    boolean image(int k) {
        if (k < 0 || k > 2) {
            return false;
        }
        Model kept = new Model();
        kept.take(this);
        images.put(k, kept);
        return true;
    }

    boolean again(int k) {
        if (!images.containsKey(k)) {
            return false;
        }
        take(images.get(k));
        return true;
    }

    // ---- the tape

    int feed(int... numbers) {
        if (tape.length() + 20 > 500) {
            return NONE;
        }
        StringBuilder more = new StringBuilder(tape);
        for (int n : numbers) {
            more.append((char) (n >>> 24)).append((char) (n >>> 16 & 255));
            more.append((char) (n >>> 8 & 255)).append((char) (n & 255));
        }
        tape = more.toString();
        return tape.length();
    }

    int end(int n) {
        if (n < 0 || n > tape.length()) {
            return NONE;
        }
        tape = tape.substring(0, n);
        return n;
    }

    private String taken() {
        String all = tape;
        tape = "";
        fault = 0;
        place = NONE;
        return all;
    }

    private boolean faulty(int what, int where) {
        fault = what;
        place = where;
        return true;
    }

    int fault(int what) {
        return what == 0 ? fault : what == 1 ? place : NONE;
    }

    private boolean isRow(String text, String allowed, int most) {
        for (int i = 0; i < text.length(); i++) {
            if (!text.substring(i, i + 1).matches(allowed)) {
                return !faulty(1, i);
            }
        }
        if (text.isEmpty()) {
            return !faulty(1, 0);
        }
        return text.length() <= most || !faulty(2, most);
    }

    int house() {
        String text = taken();
        if (houses.size() == 5) {
            return -2;
        }
        if (!isRow(text, "[a-z0-9]", 12)) {
            return NONE;
        }
        House h = new House();
        h.name = text;
        houses.add(h);
        return houses.size() - 1;
    }

    boolean name(int page) {
        String text = taken();
        if (!isPage(page) || !isRow(text, "[a-z0-9]", 12)) {
            return false;
        }
        pages.get(page).name = text;
        return true;
    }

    int own(int house) {
        String text = taken();
        if (!isHouse(house) || houses.get(house).pages.size() == 2) {
            return -2;
        }
        List<Box> boxes = readPage(text);
        if (boxes == null) {
            return NONE;
        }
        houses.get(house).pages.add(boxes);
        return houses.get(house).pages.size();
    }

    int page() {
        String text = taken();
        if (pages.size() == 10) {
            return -2;
        }
        List<Box> boxes = readPage(text);
        if (boxes == null) {
            return NONE;
        }
        Came c = new Came();
        c.text = boxes;
        pages.add(c);
        return pages.size() - 1;
    }

    // ---- reading: tokens with places, then a recursive reader that notes all faults in order

    private List<String> tokens;
    private List<Integer> places;
    private int next;
    private List<int[]> softFaults;

    private static final class Stuck extends Exception {
        private static final long serialVersionUID = 1L;
    }

    private void cut(String text) {
        tokens = new ArrayList<>();
        places = new ArrayList<>();
        next = 0;
        softFaults = new ArrayList<>();
        Matcher m = TOKEN.matcher(text);
        int at = 0;
        while (at < text.length()) {
            char c = text.charAt(at);
            if (c == 10 || c == 32) {
                at++;
                continue;
            }
            m.region(at, text.length());
            boolean found = m.lookingAt();
            String token = found ? m.group() : "?";
            if (found && token.matches("[0-9]{5,}")) {
                token = "?";
            }
            tokens.add(token);
            places.add(at);
            at = found ? m.end() : at + 1;
        }
        tokens.add("");
        places.add(text.length());
    }

    private String peek() {
        return tokens.get(Math.min(next, tokens.size() - 1));
    }

    private int where() {
        return places.get(Math.min(next, tokens.size() - 1));
    }

    private void want(String token) throws Stuck {
        if (!peek().equals(token)) {
            throw new Stuck();
        }
        next++;
    }

    private int number(int most) throws Stuck {
        if (!peek().matches("[0-9]+")) {
            throw new Stuck();
        }
        int n = Integer.parseInt(peek());
        if (n > most) {
            softFaults.add(new int[] {where(), 2});
        }
        next++;
        return n;
    }

    private boolean judged() {
        if (softFaults.isEmpty()) {
            return true;
        }
        softFaults.sort((p, q) -> p[0] != q[0] ? p[0] - q[0] : p[1] - q[1]);
        faulty(softFaults.get(0)[1], softFaults.get(0)[0]);
        return false;
    }

    private List<Box> readPage(String text) {
        cut(text);
        List<Box> boxes = new ArrayList<>();
        try {
            readBox(boxes, NONE, 0);
            want("");
        } catch (Stuck stuck) {
            faulty(1, where());
            return null;
        }
        return judged() ? boxes : null;
    }

    private void readBox(List<Box> boxes, int within, int depth) throws Stuck {
        if (!KINDS.contains(peek())) {
            throw new Stuck();
        }
        if (boxes.size() >= 14) {
            softFaults.add(new int[] {where(), 3});
        }
        if (depth >= 6) {
            softFaults.add(new int[] {where(), 4});
        }
        Box b = new Box();
        b.kind = KINDS.indexOf(peek());
        b.within = within;
        int me = boxes.size();
        boxes.add(b);
        next++;
        if (peek().matches("[0-9]+")) {
            b.colour = number(9);
        }
        if (peek().equals("land")) {
            next++;
            b.land = number(3);
        }
        if (peek().equals("day")) {
            next++;
            b.day = number(99);
        }
        if (peek().equals("(")) {
            next++;
            while (!peek().equals(")")) {
                readBox(boxes, me, depth + 1);
            }
            next++;
        } else {
            want(";");
        }
    }

    int program(int page) {
        String text = taken();
        if (!isPage(page)) {
            return -2;
        }
        cut(text);
        List<List<String>> lines = new ArrayList<>();
        try {
            while (!peek().isEmpty()) {
                lines.add(readLine(lines.size()));
            }
        } catch (Stuck stuck) {
            faulty(1, where());
            return NONE;
        }
        if (!judged()) {
            return NONE;
        }
        pages.get(page).program = lines;
        return lines.size();
    }

    private List<String> readLine(int before) throws Stuck {
        if (before >= 20) {
            softFaults.add(new int[] {where(), 3});
        }
        int from = next;
        String order = peek();
        next++;
        switch (order) {
            case "read" -> {
                if (!KINDS.contains(peek())) {
                    throw new Stuck();
                }
                next++;
                want("to");
                number(5);
            }
            case "mix", "put", "send" -> {
                number(order.equals("put") ? 99 : 5);
                want("to");
                number(order.equals("send") ? 9 : 5);
            }
            case "if" -> {
                number(5);
                want("<");
                number(99);
                want("go");
                number(20);
            }
            case "go" -> number(20);
            case "stop" -> { }
            default -> {
                next--;
                throw new Stuck();
            }
        }
        want(";");
        return new ArrayList<>(tokens.subList(from, next - 1));
    }

    // ---- names

    boolean alike(int a, int b, int price) {
        String signs = "abcdefghijklmnopqrstuvwxyz0123456789";
        if (a == b || a < 0 || b < 0 || a > 255 || b > 255 || price < 1 || price > 6) {
            return false;
        }
        if (signs.indexOf(a) < 0 || signs.indexOf(b) < 0) {
            return false;
        }
        alike.put("" + (char) a + (char) b, price);
        alike.put("" + (char) b + (char) a, price);
        return true;
    }

    int spell(int page, int house) {
        if (!isPage(page) || !isHouse(house) || pages.get(page).name == null) {
            return NONE;
        }
        return spelled(pages.get(page).name, houses.get(house).name, new HashMap<>());
    }

    private int spelled(String a, String b, Map<String, Integer> known) {
        if (a.isEmpty() || b.isEmpty()) {
            return 4 * (a.length() + b.length());
        }
        String key = a + "," + b;
        if (known.containsKey(key)) {
            return known.get(key);
        }
        int least = 4 + spelled(a.substring(1), b, known);
        least = Math.min(least, 4 + spelled(a, b.substring(1), known));
        String pair = a.substring(0, 1) + b.charAt(0);
        int price = a.charAt(0) == b.charAt(0) ? 0 : alike.getOrDefault(pair, 6);
        least = Math.min(least, price + spelled(a.substring(1), b.substring(1), known));
        if (a.length() > 1 && b.length() > 1 && a.charAt(0) == b.charAt(1) && a.charAt(1) == b.charAt(0)) {
            least = Math.min(least, 3 + spelled(a.substring(2), b.substring(2), known));
        }
        known.put(key, least);
        return least;
    }

    // ---- told by numbers

    boolean stands(int page, int day, int pieces) {
        if (!isPage(page) || !isDay(day) || pieces < 0 || pieces > 0xFFFFF) {
            return false;
        }
        pages.get(page).since = day;
        pages.get(page).pieces = pieces;
        return true;
    }

    boolean worth(int kind, int to) {
        if (kind < 0 || kind > 7 || to < 0 || to > 99) {
            return false;
        }
        worth[kind] = to;
        return true;
    }

    boolean marks(int a, int b, int c) {
        if (a < 0 || a > 60 || b < 0 || b > 200 || c < 0 || c > 99) {
            return false;
        }
        marks = new int[] {a, b, c};
        return true;
    }

    // ---- trees

    static List<Tree> opened(List<Box> text, List<Integer> gone, int within, int land, int day) {
        List<Tree> row = new ArrayList<>();
        for (int k = 0; k < text.size(); k++) {
            Box b = text.get(k);
            if (b.within != within) {
                continue;
            }
            if (gone.contains(k)) {
                row.addAll(opened(text, gone, k, land, day));
            } else if ((b.land == NONE || b.land == land) && b.day <= day) {
                row.add(new Tree(b.kind, b.colour, opened(text, gone, k, land, day)));
            }
        }
        return row;
    }

    private List<Tree> opened(int page, int land, int day) {
        return opened(pages.get(page).text, List.of(), NONE, land, day);
    }

    static int size(List<Tree> row) {
        int n = 0;
        for (Tree t : row) {
            n += 1 + size(t.in());
        }
        return n;
    }

    static int far(List<Tree> a, List<Tree> b) {
        return far(a, b, new HashMap<>());
    }

    /** By the last trees of the two rows: one is taken out, put in, or the two become one another. */
    private static int far(List<Tree> a, List<Tree> b, Map<String, Integer> known) {
        if (a.isEmpty() || b.isEmpty()) {
            return 2 * (size(a) + size(b));
        }
        String key = a + "|" + b;
        Integer found = known.get(key);
        if (found != null) {
            return found;
        }
        Tree x = a.get(a.size() - 1);
        Tree y = b.get(b.size() - 1);
        List<Tree> restA = a.subList(0, a.size() - 1);
        List<Tree> restB = b.subList(0, b.size() - 1);
        List<Tree> outA = new ArrayList<>(restA);
        outA.addAll(x.in());
        List<Tree> outB = new ArrayList<>(restB);
        outB.addAll(y.in());
        int swap = (x.kind() == y.kind() ? 0 : 3) + (x.colour() == y.colour() ? 0 : 1);
        int least = 2 + far(outA, b, known);
        least = Math.min(least, 2 + far(a, outB, known));
        least = Math.min(least, swap + far(x.in(), y.in(), known) + far(restA, restB, known));
        known.put(key, least);
        return least;
    }

    int boxes(int page, int land, int day) {
        return isSeen(page, land, day) ? size(opened(page, land, day)) : NONE;
    }

    int box(int page, int k, int what) {
        if (!isPage(page) || k < 0 || k >= pages.get(page).text.size() || what < 0 || what > 4) {
            return -2;
        }
        Box b = pages.get(page).text.get(k);
        return new int[] {b.kind, b.colour, b.within, b.land, b.day}[what];
    }

    int far(int a, int b, int land, int day) {
        return isSeen(a, land, day) && isPage(b) ? far(opened(a, land, day), opened(b, land, day)) : NONE;
    }

    private int look(List<Tree> row, int house, int land, int day) {
        int least = 999;
        for (List<Box> own : houses.get(house).pages) {
            least = Math.min(least, far(row, opened(own, List.of(), NONE, land, day)));
        }
        return least;
    }

    int look(int page, int house, int land, int day) {
        return isSeen(page, land, day) && isHouse(house) ? look(opened(page, land, day), house, land, day) : NONE;
    }

    private View view(Came came, List<Tree> row, int land, int day, int waits) {
        int like = NONE;
        int least = 10000;
        for (int h = 0; h < houses.size(); h++) {
            int look = look(row, h, land, day);
            if (look < least) {
                least = look;
                like = h;
            }
        }
        boolean elsewhere = like != NONE && !houses.get(like).name.equals(came.name);
        return new View(least, like, ask(row), elsewhere, Math.max(0, day - came.since) + waits);
    }

    private View view(int page, int land, int day) {
        return view(pages.get(page), opened(page, land, day), land, day, 0);
    }

    private int ask(List<Tree> row) {
        int n = 0;
        for (Tree t : row) {
            n += worth[t.kind()] + ask(t.in());
        }
        return n;
    }

    int like(int page, int land, int day) {
        return isSeen(page, land, day) ? view(page, land, day).like() : NONE;
    }

    int asks(int page, int land, int day) {
        return isSeen(page, land, day) ? ask(opened(page, land, day)) : NONE;
    }

    int strange() {
        int least = NONE;
        for (int g = 0; g < houses.size(); g++) {
            for (int h = 0; h < houses.size(); h++) {
                for (List<Box> p : houses.get(g).pages) {
                    for (List<Box> q : houses.get(h).pages) {
                        if (g != h) {
                            int far = far(opened(p, List.of(), NONE, 0, 0), opened(q, List.of(), NONE, 0, 0));
                            least = least == NONE ? far : Math.min(least, far);
                        }
                    }
                }
            }
        }
        return least;
    }

    // ---- signs

    private int signs(View v, int[] by) {
        int bits = v.ask() >= by[1] ? 2 : 0;
        if (v.like() != NONE && v.look() <= by[0]) {
            bits += 1;
        }
        if (v.like() != NONE && v.elsewhere() && v.age() <= by[2]) {
            bits += 4;
        }
        return bits;
    }

    private static int say(int signs) {
        return signs == 7 ? 2 : signs == 3 || signs == 5 || signs == 6 ? 1 : 0;
    }

    int signs(int page, int land, int day) {
        return isSeen(page, land, day) ? signs(view(page, land, day), marks) : NONE;
    }

    int say(int page, int land, int day) {
        return isSeen(page, land, day) ? say(signs(view(page, land, day), marks)) : NONE;
    }

    int warn(int house, int land, int day) {
        if (!isHouse(house) || land < 0 || land > 3 || !isDay(day)) {
            return NONE;
        }
        int bits = 0;
        for (int p = 0; p < pages.size(); p++) {
            if (say(p, land, day) == 2 && like(p, land, day) == house) {
                bits |= 1 << p;
            }
        }
        return bits;
    }

    // ---- the room

    int differs(int page, int land, int day, int other, int its) {
        if (!isSeen(page, land, day) || !isSeen(page, other, its)) {
            return NONE;
        }
        return far(opened(page, land, day), opened(page, other, its));
    }

    int hides(int page, int day) {
        int most = NONE;
        for (int land = 0; land < 4; land++) {
            for (int other = 0; other < 4; other++) {
                most = Math.max(most, differs(page, land, day, other, day));
            }
        }
        return most;
    }

    int late(int page, int land) {
        for (int day = 1; day < 100; day++) {
            if (isSeen(page, land, day) && !opened(page, land, day).equals(opened(page, land, 0))) {
                return day;
            }
        }
        return NONE;
    }

    // ---- marks

    int keep(int page, int day, boolean pretends) {
        if (!isPage(page) || !isDay(day) || cases.size() == 16) {
            return NONE;
        }
        cases.add(new Case(page, day, pretends));
        return cases.size() - 1;
    }

    /** BEST MARKS and their counts, by trying all; null: none. */
    int[] best(int h) {
        List<View> views = new ArrayList<>();
        for (Case c : cases) {
            views.add(view(c.page(), 0, c.day()));
        }
        int[] best = null;
        for (int a = 0; a <= 60; a++) {
            for (int b = 0; b <= 200; b++) {
                for (int c = 0; c <= 99; c++) {
                    int missed = 0;
                    int cried = 0;
                    for (int k = 0; k < views.size(); k++) {
                        View v = views.get(k);
                        boolean cry = v.like() != NONE && v.elsewhere() && v.look() <= a && v.ask() >= b && v.age() <= c;
                        if (cases.get(k).pretends() && !cry) {
                            missed++;
                        }
                        if (!cases.get(k).pretends() && cry) {
                            cried++;
                        }
                    }
                    if (cried <= h && (best == null || missed < best[3] || missed == best[3] && cried < best[4])) {
                        best = new int[] {a, b, c, missed, cried};
                    }
                }
            }
        }
        return best;
    }

    int fit(int h, int what) {
        if (h < 0 || h > 16 || what < 0 || what > 4) {
            return NONE;
        }
        int[] best = best(h);
        return best == null ? NONE : best[what];
    }

    // ---- the forger

    int change(int page, int sort, int box, int n, int price) {
        if (!isPage(page) || pages.get(page).changes.size() == 6 || price < 1 || price > 99) {
            return NONE;
        }
        boolean there = box >= 0 && box < pages.get(page).text.size();
        boolean good = switch (sort) {
            case 0 -> there;
            case 1 -> there && n >= 0 && n <= 9;
            case 2 -> n >= 0 && n <= 99;
            default -> false;
        };
        if (!good) {
            return NONE;
        }
        pages.get(page).changes.add(new Change(sort, box, n, price));
        return pages.get(page).changes.size() - 1;
    }

    private View forged(Came came, int day, int set) {
        List<Box> text = new ArrayList<>();
        for (Box b : came.text) {
            text.add(b.copy());
        }
        List<Integer> gone = new ArrayList<>();
        int waits = 0;
        for (int c = 0; c < came.changes.size(); c++) {
            Change change = came.changes.get(c);
            if ((set & 1 << c) == 0) {
                continue;
            }
            switch (change.sort()) {
                case 0 -> gone.add(change.box());
                case 1 -> text.get(change.box()).colour = change.n();
                default -> waits += change.n();
            }
        }
        return view(came, opened(text, gone, NONE, 0, day), 0, day, waits);
    }

    private List<View> forged(Came came, int day) {
        List<View> views = new ArrayList<>();
        for (int set = 0; set < 1 << came.changes.size(); set++) {
            views.add(forged(came, day, set));
        }
        return views;
    }

    /** PRICE, set and SAY of PASS by some MARKS; null: none. */
    private int[] pass(Came came, List<View> views, int k, int w, int[] by) {
        int[] best = null;
        int fewest = 0;
        for (int set = 0; set < views.size(); set++) {
            View v = views.get(set);
            int price = 0;
            for (int c = 0; c < came.changes.size(); c++) {
                price += (set & 1 << c) != 0 ? came.changes.get(c).price() : 0;
            }
            int say = say(signs(v, by));
            if (v.like() == NONE || v.look() > k || v.ask() < w || say == 2) {
                continue;
            }
            if (best == null || price < best[0] || price == best[0] && Integer.bitCount(set) < fewest) {
                best = new int[] {price, set, say};
                fewest = Integer.bitCount(set);
            }
        }
        return best;
    }

    int pass(int page, int day, int k, int w, int what) {
        if (!isAim(page, day, k, w) || what < 0 || what > 2) {
            return NONE;
        }
        Came came = pages.get(page);
        int[] best = pass(came, forged(came, day), k, w, marks);
        return best == null ? NONE : best[what];
    }

    int met(int page, int day, int k, int w) {
        if (!isAim(page, day, k, w)) {
            return NONE;
        }
        Came came = pages.get(page);
        List<View> views = forged(came, day);
        for (int a = 0; a <= 60; a++) {
            if (pass(came, views, k, w, new int[] {a, marks[1], marks[2]}) == null) {
                return a;
            }
        }
        return NONE;
    }

    private boolean isAim(int page, int day, int k, int w) {
        return isPage(page) && isDay(day) && k >= 0 && k <= 99 && w >= 0 && w <= 999;
    }

    // ---- rings

    private static final Map<List<Integer>, Long> WAYS = new HashMap<>();

    /** Deals n of 20 in all ways and counts those with so many or more among the first m. */
    private static long ways(int m, int n, int least) {
        return WAYS.computeIfAbsent(List.of(m, n, least), key -> {
            long ways = 0;
            for (int dealt = 0; dealt < 1 << 20; dealt++) {
                if (Integer.bitCount(dealt) == n && Integer.bitCount(dealt & (1 << m) - 1) >= least) {
                    ways++;
                }
            }
            return ways;
        });
    }

    private long odds(int a, int b) {
        int one = pages.get(a).pieces;
        int two = pages.get(b).pieces;
        return ways(Integer.bitCount(one), Integer.bitCount(two), Integer.bitCount(one & two));
    }

    private long all(int b) {
        return ways(0, Integer.bitCount(pages.get(b).pieces), 0);
    }

    int odds(int a, int b, int what) {
        if (!isPage(a) || !isPage(b) || a == b || what < 0 || what > 1) {
            return NONE;
        }
        return (int) (what == 0 ? odds(a, b) : all(b));
    }

    int ring(int page, int q) {
        if (!isPage(page) || q < 1 || q > 9999) {
            return NONE;
        }
        TreeSet<Integer> ring = new TreeSet<>(List.of(page));
        boolean grown = true;
        while (grown) {
            grown = false;
            for (int a : new ArrayList<>(ring)) {
                for (int b = 0; b < pages.size(); b++) {
                    boolean share = (pages.get(a).pieces & pages.get(b).pieces) != 0;
                    if (a != b && share && odds(a, b) * q <= all(b) && ring.add(b)) {
                        grown = true;
                    }
                }
            }
        }
        int bits = 0;
        for (int p : ring) {
            bits |= 1 << p;
        }
        return bits;
    }

    int sketch(int page, int n) {
        if (!isPage(page) || n < 0 || n > 16) {
            return NONE;
        }
        int x = 7;
        for (Box b : pages.get(page).text) {
            x = (x * 31 + 10 * b.kind + b.colour) % 65536;
        }
        return x % (1 << n);
    }

    int leaves(int page, int m) {
        int best = NONE;
        for (int n = 0; n <= 16 && isPage(page) && m >= 1 && m <= 10; n++) {
            int fits = 0;
            for (int p = 0; p < pages.size(); p++) {
                fits += sketch(p, n) == sketch(page, n) ? 1 : 0;
            }
            if (fits >= m) {
                best = n;
            }
        }
        return best;
    }

    // ---- programs

    boolean relay(int a, int b) {
        if (a < 0 || a > 9 || b < NONE || b > 9 || a == b) {
            return false;
        }
        relays.put(a, b);
        return true;
    }

    boolean owner(int address, int house) {
        if (address < 0 || address > 9 || house != NONE && !isHouse(house)) {
            return false;
        }
        owners.put(address, house);
        return true;
    }

    int goes(int address, boolean hands) {
        if (address < 0 || address > 9) {
            return NONE;
        }
        List<Integer> way = new ArrayList<>();
        int at = address;
        while (at != NONE) {
            if (way.contains(at)) {
                return NONE;
            }
            way.add(at);
            at = relays.getOrDefault(at, NONE);
        }
        return hands ? way.size() - 1 : way.get(way.size() - 1);
    }

    /** What comes to the ADDRESSES, and behind them the steps. */
    private int[] run(int page, int x) {
        int[] out = new int[11];
        int[] value = new int[6];
        int[] trace = new int[6];
        List<List<String>> lines = pages.get(page).program;
        int at = 0;
        while (out[10] < 200 && at < lines.size()) {
            List<String> line = lines.get(at);
            out[10]++;
            at++;
            String order = line.get(0);
            if (order.equals("stop")) {
                break;
            }
            if (order.equals("go")) {
                at = Integer.parseInt(line.get(1));
            } else if (order.equals("if")) {
                if (value[Integer.parseInt(line.get(1))] < Integer.parseInt(line.get(3))) {
                    at = Integer.parseInt(line.get(5));
                }
            } else {
                int to = Integer.parseInt(line.get(3));
                if (order.equals("read")) {
                    int kind = KINDS.indexOf(line.get(1));
                    value[to] = (x * (kind + 1) + 7) % 100;
                    trace[to] = 1 << kind;
                } else if (order.equals("put")) {
                    value[to] = Integer.parseInt(line.get(1));
                    trace[to] = 0;
                } else if (order.equals("mix")) {
                    int from = Integer.parseInt(line.get(1));
                    value[to] = (value[to] + value[from]) % 100;
                    trace[to] |= trace[from];
                } else {
                    out[to] |= trace[Integer.parseInt(line.get(1))];
                }
            }
        }
        return out;
    }

    int sent(int page, int x, int address) {
        return isPage(page) && x >= 0 && x <= 999 && address >= 0 && address <= 9 ? run(page, x)[address] : NONE;
    }

    int steps(int page, int x) {
        return isPage(page) && x >= 0 && x <= 999 ? run(page, x)[10] : NONE;
    }

    int taken(int page, int x) {
        if (!isPage(page) || x < NONE || x > 999) {
            return NONE;
        }
        int like = like(page, 0, 0);
        int kinds = 0;
        for (int made = x == NONE ? 0 : x; made <= (x == NONE ? 999 : x); made++) {
            int[] out = run(page, made);
            for (int a = 0; a < 10; a++) {
                int end = goes(a, false);
                if (like == NONE || end == NONE || owners.getOrDefault(end, NONE) != like) {
                    kinds |= out[a];
                }
            }
        }
        return kinds;
    }

    // ---- letters

    int word(int meaning) {
        String text = taken();
        if (meaning < 0 || meaning > 7) {
            return -2;
        }
        if (!isRow(text, "[a-z]", 8)) {
            return NONE;
        }
        int k = words.indexOf(text);
        if (k >= 0) {
            meanings.set(k, meaning);
            return k;
        }
        if (words.size() == 20) {
            return -2;
        }
        words.add(text);
        meanings.add(meaning);
        return words.size() - 1;
    }

    int pattern(int bits, int weight) {
        if (bits < 1 || bits > 255 || weight < -99 || weight > 99 || patterns.size() == 8) {
            return NONE;
        }
        patterns.add(new int[] {bits, weight});
        return patterns.size() - 1;
    }

    int letter() {
        String text = taken();
        for (int i = 0; i < text.length(); i++) {
            if (!text.substring(i, i + 1).matches("[a-z. \n]")) {
                faulty(1, i);
                return NONE;
            }
        }
        letter = text;
        return sentences().size();
    }

    private List<Integer> sentences() {
        List<Integer> all = new ArrayList<>();
        for (String part : letter.split("\\.")) {
            List<String> its = new ArrayList<>(Arrays.asList(part.split("[ \n]+")));
            its.removeIf(String::isEmpty);
            int bits = 0;
            for (String word : its) {
                bits |= words.contains(word) ? 1 << meanings.get(words.indexOf(word)) : 0;
            }
            if (!its.isEmpty()) {
                all.add(bits);
            }
        }
        return all;
    }

    int sentence(int k) {
        return k >= 0 && k < sentences().size() ? sentences().get(k) : NONE;
    }

    int holds(int pattern) {
        List<Integer> all = sentences();
        for (int k = 0; k < all.size() && pattern >= 0 && pattern < patterns.size(); k++) {
            if ((patterns.get(pattern)[0] & ~all.get(k)) == 0) {
                return k;
            }
        }
        return NONE;
    }

    int presses() {
        int sum = 0;
        for (int p = 0; p < patterns.size(); p++) {
            sum += holds(p) == NONE ? 0 : patterns.get(p)[1];
        }
        return sum;
    }

    // ---- pictures

    boolean picture(boolean came, int k, int squares) {
        if (came ? !isPage(k) : !isHouse(k)) {
            return false;
        }
        if (squares < 0 || squares > 0x1FFFFFF) {
            return false;
        }
        if (came) {
            pages.get(k).picture = squares;
        } else {
            houses.get(k).picture = squares;
        }
        return true;
    }

    private static boolean[][] grid(int squares) {
        boolean[][] grid = new boolean[5][5];
        for (int i = 0; i < 25; i++) {
            grid[i / 5][i % 5] = (squares & 1 << i) != 0;
        }
        return grid;
    }

    int unlike(int page, int house) {
        if (!isPage(page) || !isHouse(house)) {
            return NONE;
        }
        boolean[][] mine = grid(pages.get(page).picture);
        boolean[][] its = grid(houses.get(house).picture);
        int least = 25;
        for (int turn = 0; turn < 4; turn++) {
            for (int dr = -1; dr <= 1; dr++) {
                for (int dc = -1; dc <= 1; dc++) {
                    int differ = 0;
                    for (int r = 0; r < 5; r++) {
                        for (int c = 0; c < 5; c++) {
                            boolean in = r - dr >= 0 && r - dr < 5 && c - dc >= 0 && c - dc < 5;
                            differ += its[r][c] != (in && mine[r - dr][c - dc]) ? 1 : 0;
                        }
                    }
                    least = Math.min(least, differ);
                }
            }
            boolean[][] turned = new boolean[5][5];
            for (int r = 0; r < 5; r++) {
                for (int c = 0; c < 5; c++) {
                    turned[c][4 - r] = mine[r][c];
                }
            }
            mine = turned;
        }
        return least;
    }

    int near(int page) {
        int best = NONE;
        for (int h = 0; h < houses.size() && isPage(page); h++) {
            if (best == NONE || unlike(page, h) < unlike(page, best)) {
                best = h;
            }
        }
        return best;
    }

    int count(int what) {
        List<Integer> first = List.of(houses.size(), pages.size(), cases.size(), marks[0], marks[1], marks[2],
                words.size(), patterns.size(), sentences().size());
        if (what >= 0 && what <= 8) {
            return first.get(what);
        }
        if (what >= 10 && what < 20 && isPage(what - 10)) {
            return pages.get(what - 10).changes.size();
        }
        if (what >= 20 && what < 30 && isHouse(what - 20)) {
            return houses.get(what - 20).pages.size();
        }
        return what >= 30 && what <= 37 ? worth[what - 30] : -2;
    }

    // ---- what there is

    private boolean isPage(int page) {
        return page >= 0 && page < pages.size();
    }

    private boolean isHouse(int house) {
        return house >= 0 && house < houses.size();
    }

    private static boolean isDay(int day) {
        return day >= 0 && day <= 99;
    }

    private boolean isSeen(int page, int land, int day) {
        return isPage(page) && land >= 0 && land <= 3 && isDay(day);
    }
}
