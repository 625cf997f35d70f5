/** Promises 26 and 27: keep, fit. */
public final class MarksTest {
    private static final Checks CHECKS = new Checks("MarksTest");

    public static void main(String[] args) {
        keep();
        fit();
        edges();
        noSuchMarks();
        asItIsNow();
        CHECKS.end();
    }

    private static void keep() {
        PretendDesk x = new PretendDesk();
        CHECKS.is("no page", x.keep(0, 0, true), -1);
        Checks.page(x, "box;");
        CHECKS.is("page 1", x.keep(1, 0, true), -1);
        CHECKS.is("page -1", x.keep(-1, 0, true), -1);
        CHECKS.is("day 100", x.keep(0, 100, true), -1);
        CHECKS.is("day -1", x.keep(0, -1, true), -1);
        for (int k = 0; k < 16; k++) {
            CHECKS.is("count(2)", x.count(2), k);
            CHECKS.is("keep", x.keep(0, 99 - k, k % 2 == 0), k);
        }
        CHECKS.is("there are 16", x.keep(0, 0, true), -1);
        CHECKS.is("count(2)", x.count(2), 16);
        CHECKS.is("all 8 are missed", x.fit(16, 3), 8);
    }

    private static void due(PretendDesk x, int h, int... row) {
        for (int what = 0; what < row.length; what++) {
            CHECKS.is("fit(" + h + ", " + what + ")", x.fit(h, what), row[what]);
        }
    }

    /** House "bank"; pages 0 .. 3: LOOK 0, 2, 7, 7 and ASK 100, 50, 110, 60. */
    private static PretendDesk four() {
        PretendDesk x = new PretendDesk();
        Checks.house(x, "bank");
        Checks.own(x, 0, "box(pass;pass;)");
        Checks.page(x, "box(pass;pass;)");
        Checks.page(x, "box(pass;)");
        Checks.page(x, "box(card;pass(text;text;))");
        Checks.page(x, "card;");
        return x;
    }

    private static void fit() {
        PretendDesk x = four();
        due(x, 0, 0, 0, 0, 0, 0);
        x.keep(1, 0, true);
        due(x, 0, 2, 0, 0, 0, 0);
        x.keep(0, 5, true);
        due(x, 0, 2, 0, 5, 0, 0);
        x.keep(3, 5, false);
        due(x, 0, 2, 0, 5, 0, 0);
        x.keep(2, 40, true);
        // Page 2 can be had alone by a b of 61, which misses page 1: the least row has one miss, too.
        due(x, 0, 2, 0, 5, 1, 0);
        due(x, 1, 7, 0, 40, 0, 1);
        due(x, 16, 7, 0, 40, 0, 1);
        x.keep(2, 41, true);
        due(x, 0, 7, 61, 41, 1, 0);
        x.keep(2, 99, true);
        due(x, 0, 7, 61, 99, 1, 0);
        x.keep(2, 98, false);
        due(x, 0, 7, 61, 41, 2, 0);
        due(x, 1, 7, 0, 41, 1, 1);
        due(x, 2, 7, 0, 99, 0, 2);
        CHECKS.is("h 17", x.fit(17, 0), -1);
        CHECKS.is("h -1", x.fit(-1, 0), -1);
        CHECKS.is("what 5", x.fit(0, 5), -1);
        CHECKS.is("what -1", x.fit(0, -1), -1);
    }

    private static void edges() {
        PretendDesk x = new PretendDesk();
        Checks.house(x, "bank");
        Checks.own(x, 0, "box(pass;card;pin land 0;)");
        Checks.page(x, "box(pass;card;pin land 0;)");
        Checks.page(x, "box(pass;card;pin land 0;link;)");
        x.worth(4, 89);
        x.worth(7, 1);
        x.keep(0, 99, false);
        x.keep(1, 99, true);
        due(x, 0, 2, 200, 99, 0, 0);
        x.worth(7, 0);
        due(x, 0, 0, 0, 0, 1, 0);
        Checks.name(x, 0, "bank");
        due(x, 0, 2, 0, 99, 0, 0);
        CHECKS.is("seen by LAND 0", x.fit(0, 0) + x.look(1, 0, 1, 0) + x.look(1, 0, 0, 0), 6);
        x = new PretendDesk();
        Checks.house(x, "bank");
        Checks.own(x, 0, "box;");
        Checks.page(x, "box(pin land 1;)");
        Checks.page(x, "box(pin land 0;)");
        x.keep(0, 0, true);
        due(x, 0, 0, 0, 0, 0, 0);
        x.keep(1, 0, true);
        due(x, 0, 2, 0, 0, 0, 0);
    }

    private static void noSuchMarks() {
        PretendDesk x = new PretendDesk();
        Checks.house(x, "bank");
        Checks.own(x, 0, "box(pin;pin;pin;)");
        Checks.page(x, "box(pin;pin;pin;)");
        x.keep(0, 0, false);
        CHECKS.is("cried at by all MARKS", x.fit(0, 0), -1);
        CHECKS.is("cried at by all MARKS", x.fit(0, 4), -1);
        due(x, 1, 0, 0, 0, 0, 1);
        Checks.page(x, "box(pin;pin;text;)");
        x.keep(1, 0, false);
        due(x, 1, 0, 0, 0, 0, 1);
        x.keep(1, 9, true);
        due(x, 1, 0, 0, 0, 1, 1);
        due(x, 2, 3, 0, 9, 0, 2);
    }

    /** A CASE is a PAGE that came and a DAY: what it looks like is reckoned when it is asked. */
    private static void asItIsNow() {
        PretendDesk x = new PretendDesk();
        Checks.page(x, "box(pass;)");
        x.keep(0, 3, true);
        due(x, 0, 0, 0, 0, 1, 0);
        Checks.house(x, "bank");
        Checks.own(x, 0, "box;");
        due(x, 0, 2, 0, 3, 0, 0);
        x.stands(0, 2, 0);
        due(x, 0, 2, 0, 1, 0, 0);
        x.keep(0, 3, false);
        due(x, 0, 0, 0, 0, 1, 0);
        due(x, 1, 2, 0, 1, 0, 1);
        Checks.name(x, 0, "bank");
        due(x, 1, 0, 0, 0, 1, 0);
    }
}
