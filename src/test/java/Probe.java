import java.util.ArrayList;
import java.util.List;

/**
 * All that can be asked of a desk, of its images too. As an object is used for 512 calls alone, the
 * desk is made anew for each part of the questions.
 */
final class Probe {
    private static final int IMAGES = 3;
    private static final int PAGES_A_PART = 2;
    private static final int PARTS = 2 + 10 / PAGES_A_PART;

    private final List<String> ofTape = new ArrayList<>();
    private final List<String> ofRest = new ArrayList<>();
    private PretendDesk x;
    private List<String> answers;

    Probe(Edges.Maker maker) {
        this(maker, IMAGES);
    }

    /** Of the first images alone, or of none. */
    Probe(Edges.Maker maker, int images) {
        for (int image = -1; image < images; image++) {
            boolean there = true;
            for (int part = 0; part < PARTS && there; part++) {
                x = maker.make();
                answers = ofRest;
                if (image >= 0) {
                    there = x.again(image);
                    note("again(" + image + ") = ", Edges.bit(there));
                }
                if (there) {
                    ask(part, image < 0);
                }
            }
        }
    }

    /** The first answer that is another one, or null. */
    String differs(Probe due, boolean tapeToo) {
        String found = first(ofRest, due.ofRest);
        return found == null && tapeToo ? first(ofTape, due.ofTape) : found;
    }

    private static String first(List<String> got, List<String> due) {
        for (int k = 0; k < got.size() && k < due.size(); k++) {
            if (!got.get(k).equals(due.get(k))) {
                return got.get(k) + ", due is " + due.get(k);
            }
        }
        return got.size() == due.size() ? null : got.size() + " answers, due are " + due.size();
    }

    private void note(String call, int answer) {
        answers.add(call + answer);
    }

    private void ask(int part, boolean now) {
        if (part == 0) {
            answers = now ? ofTape : ofRest;
            askTape();
        } else if (part == 1) {
            askCounts();
            askRest();
        } else {
            int from = (part - 2) * PAGES_A_PART;
            for (int page = from; page < from + PAGES_A_PART && page < x.count(1); page++) {
                askPage(page);
            }
        }
    }

    private void askTape() {
        note("fault(0) = ", x.fault(0));
        note("fault(1) = ", x.fault(1));
        note("fault(2) = ", x.fault(2));
        note("bytes of the tape: ", tapeLength());
        note("the tape as a LETTER = ", x.letter());
        note("its FAULT at ", x.fault(1));
        for (int k = 0; k < 4; k++) {
            note("sentence(" + k + ") = ", x.sentence(k));
        }
    }

    private int tapeLength() {
        int more = x.feed(0, 0, 0, 0, 0);
        if (more >= 20) {
            return x.end(more - 20);
        }
        int length = 500;
        while (length > 480 && x.end(length) != length) {
            length--;
        }
        return length;
    }

    private void askCounts() {
        for (int what = 0; what < 38; what++) {
            note("count(" + what + ") = ", x.count(what));
        }
    }

    private void askRest() {
        for (int what = 0; what < 5; what++) {
            note("fit(0, " + what + ") = ", x.fit(0, what));
            note("fit(2, " + what + ") = ", x.fit(2, what));
        }
        for (int address = 0; address < 10; address++) {
            note("goes(" + address + ", false) = ", x.goes(address, false));
            note("goes(" + address + ", true) = ", x.goes(address, true));
        }
        note("strange() = ", x.strange());
        for (int house = 0; house < x.count(0); house++) {
            note("warn(" + house + ", 0, 0) = ", x.warn(house, 0, 0));
        }
        note("presses() = ", x.presses());
        for (int k = 0; k < 20 && k < x.count(8); k++) {
            note("sentence(" + k + ") = ", x.sentence(k));
        }
        for (int k = 0; k < x.count(7); k++) {
            note("holds(" + k + ") = ", x.holds(k));
        }
    }

    private void askPage(int page) {
        note("sketch(" + page + ", 16) = ", x.sketch(page, 16));
        note("leaves(" + page + ", 2) = ", x.leaves(page, 2));
        for (int land = 0; land < 4; land++) {
            note("boxes(" + page + ", " + land + ", 0) = ", x.boxes(page, land, 0));
            note("boxes(" + page + ", " + land + ", 99) = ", x.boxes(page, land, 99));
        }
        for (int what = 0; what < 5; what++) {
            note("box(" + page + ", 0, " + what + ") = ", x.box(page, 0, what));
            note("box(" + page + ", 1, " + what + ") = ", x.box(page, 1, what));
        }
        note("asks(" + page + ", 0, 99) = ", x.asks(page, 0, 99));
        note("far(" + page + ", 0, 0, 0) = ", x.far(page, 0, 0, 0));
        note("hides(" + page + ", 50) = ", x.hides(page, 50));
        note("late(" + page + ", 0) = ", x.late(page, 0));
        note("near(" + page + ") = ", x.near(page));
        note("ring(" + page + ", 21) = ", x.ring(page, 21));
        note("odds(" + page + ", 0, 0) = ", x.odds(page, 0, 0));
        note("odds(0, " + page + ", 1) = ", x.odds(0, page, 1));
        for (int house = 0; house < x.count(0); house++) {
            note("look(" + page + ", " + house + ", 0, 0) = ", x.look(page, house, 0, 0));
            note("spell(" + page + ", " + house + ") = ", x.spell(page, house));
            note("unlike(" + page + ", " + house + ") = ", x.unlike(page, house));
        }
        askSigns(page);
        askProgram(page);
    }

    private void askSigns(int page) {
        int[] days = {0, 30, 31, 35, 36, 50, 99};
        for (int day : days) {
            note("signs(" + page + ", 0, " + day + ") = ", x.signs(page, 0, day));
        }
        note("like(" + page + ", 0, 0) = ", x.like(page, 0, 0));
        note("say(" + page + ", 0, 0) = ", x.say(page, 0, 0));
        for (int what = 0; what < 3; what++) {
            note("pass(" + page + ", 0, 99, 0, " + what + ") = ", x.pass(page, 0, 99, 0, what));
            note("pass(" + page + ", 0, 3, 50, " + what + ") = ", x.pass(page, 0, 3, 50, what));
        }
        note("met(" + page + ", 0, 99, 0) = ", x.met(page, 0, 99, 0));
    }

    private void askProgram(int page) {
        note("steps(" + page + ", 0) = ", x.steps(page, 0));
        note("steps(" + page + ", 57) = ", x.steps(page, 57));
        for (int address = 0; address < 10; address++) {
            note("sent(" + page + ", 57, " + address + ") = ", x.sent(page, 57, address));
        }
        note("taken(" + page + ", NONE) = ", x.taken(page, -1));
    }
}
