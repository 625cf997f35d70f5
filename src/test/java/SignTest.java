/** Promises 11, 12, 18, 20, 21, 22, 35: stands, worth, asks, marks, signs, say, warn. */
public final class SignTest {
    private static final Checks CHECKS = new Checks("SignTest");

    public static void main(String[] args) {
        stands();
        worth();
        marks();
        signs();
        withoutHouses();
        warn();
        CHECKS.end();
    }

    /** A page that cries at house 0: LOOK 3, ASK 110, another NAME. */
    private static PretendDesk crying() {
        PretendDesk x = new PretendDesk();
        Checks.house(x, "bank");
        Checks.own(x, 0, "box(logo 1;form(text;pass;))");
        Checks.page(x, "box 2(logo 1;form(text;pass;card;)link land 2;)");
        return x;
    }

    private static void stands() {
        PretendDesk x = crying();
        CHECKS.is("at first since DAY 0, day 30", x.signs(0, 0, 30), 7);
        CHECKS.is("at first since DAY 0, day 31", x.signs(0, 0, 31), 3);
        CHECKS.is("stands", x.stands(0, 50, 0), true);
        CHECKS.is("day 80", x.signs(0, 0, 80), 7);
        CHECKS.is("day 81", x.signs(0, 0, 81), 3);
        x.marks(10, 40, 0);
        CHECKS.is("0 if below", x.signs(0, 0, 3), 7);
        CHECKS.is("of the day", x.signs(0, 0, 50), 7);
        CHECKS.is("the day after", x.signs(0, 0, 51), 3);
        CHECKS.is("all pieces", x.stands(0, 99, (1 << 20) - 1), true);
        CHECKS.is("one piece too many", x.stands(0, 0, 1 << 20), false);
        CHECKS.is("pieces -1", x.stands(0, 0, -1), false);
        CHECKS.is("day 100", x.stands(0, 100, 0), false);
        CHECKS.is("day -1", x.stands(0, -1, 0), false);
        CHECKS.is("page 1", x.stands(1, 0, 0), false);
        CHECKS.is("page -1", x.stands(-1, 0, 0), false);
        CHECKS.is("it stays", x.signs(0, 0, 98), 7);
        CHECKS.is("it stays", x.signs(0, 0, 99), 7);
    }

    private static void worth() {
        PretendDesk x = new PretendDesk();
        Checks.page(x, "box(form;pass;card;pin;logo;text(link;pass land 1;pin day 4;))");
        CHECKS.is("asks at first", x.asks(0, 0, 0), 180);
        CHECKS.is("another land", x.asks(0, 1, 0), 230);
        CHECKS.is("another day", x.asks(0, 1, 4), 300);
        for (int kind = 0; kind < 8; kind++) {
            CHECKS.is("worth", x.worth(kind, 10 + kind), true);
            CHECKS.is("count", x.count(30 + kind), 10 + kind);
        }
        CHECKS.is("asks now", x.asks(0, 0, 0), 80 + 28);
        CHECKS.is("worth 99", x.worth(0, 99), true);
        CHECKS.is("worth 0", x.worth(7, 0), true);
        CHECKS.is("asks now", x.asks(0, 0, 0), 108 + 89 - 17);
        CHECKS.is("worth 100", x.worth(0, 100), false);
        CHECKS.is("worth -1", x.worth(0, -1), false);
        CHECKS.is("kind 8", x.worth(8, 0), false);
        CHECKS.is("kind -1", x.worth(-1, 0), false);
        CHECKS.is("it stays", x.asks(0, 0, 0), 108 + 89 - 17);
        CHECKS.is("page 1", x.asks(1, 0, 0), -1);
        CHECKS.is("page -1", x.asks(-1, 0, 0), -1);
        CHECKS.is("land 4", x.asks(0, 4, 0), -1);
        CHECKS.is("land -1", x.asks(0, -1, 0), -1);
        CHECKS.is("day 100", x.asks(0, 0, 100), -1);
        CHECKS.is("day -1", x.asks(0, 0, -1), -1);
        Checks.page(x, "pin land 2;");
        CHECKS.is("an empty page", x.asks(1, 0, 0), 0);
    }

    private static void marks() {
        PretendDesk x = new PretendDesk();
        CHECKS.is("the greatest", x.marks(60, 200, 99), true);
        CHECKS.is("a", x.count(3), 60);
        CHECKS.is("b", x.count(4), 200);
        CHECKS.is("c", x.count(5), 99);
        CHECKS.is("a 61", x.marks(61, 0, 0), false);
        CHECKS.is("a -1", x.marks(-1, 0, 0), false);
        CHECKS.is("b 201", x.marks(0, 201, 0), false);
        CHECKS.is("b -1", x.marks(0, -1, 0), false);
        CHECKS.is("c 100", x.marks(0, 0, 100), false);
        CHECKS.is("c -1", x.marks(0, 0, -1), false);
        CHECKS.is("a stays", x.count(3), 60);
        CHECKS.is("b stays", x.count(4), 200);
        CHECKS.is("c stays", x.count(5), 99);
        CHECKS.is("the least", x.marks(0, 0, 0), true);
        CHECKS.is("a 0", x.count(3), 0);
    }

    private static void signs() {
        PretendDesk x = crying();
        CHECKS.is("all three", x.signs(0, 0, 0), 7);
        CHECKS.is("a cry", x.say(0, 0, 0), 2);
        x.marks(3, 110, 0);
        CHECKS.is("just so much", x.signs(0, 0, 0), 7);
        x.marks(2, 110, 0);
        CHECKS.is("LOOK 3 by 2", x.signs(0, 0, 0), 6);
        CHECKS.is("a doubt", x.say(0, 0, 0), 1);
        x.marks(3, 111, 0);
        CHECKS.is("ASK 110 by 111", x.signs(0, 0, 0), 5);
        CHECKS.is("a doubt", x.say(0, 0, 0), 1);
        x.marks(3, 110, 4);
        CHECKS.is("AGE 5 by 4", x.signs(0, 0, 5), 3);
        CHECKS.is("a doubt", x.say(0, 0, 5), 1);
        x.marks(2, 111, 4);
        CHECKS.is("one sign", x.signs(0, 0, 4), 4);
        CHECKS.is("let be", x.say(0, 0, 4), 0);
        CHECKS.is("no sign", x.signs(0, 0, 5), 0);
        CHECKS.is("let be", x.say(0, 0, 5), 0);
        x.marks(5, 110, 4);
        Checks.name(x, 0, "banks");
        CHECKS.is("another NAME", x.signs(0, 2, 0), 7);
        Checks.name(x, 0, "bank");
        CHECKS.is("its NAME is that of LIKE", x.signs(0, 2, 0), 3);
        x.marks(4, 110, 4);
        CHECKS.is("another PERSON", x.signs(0, 2, 0), 2);
        Checks.house(x, "shop");
        Checks.own(x, 1, "box 2(logo 1;form(text;pass;card;)link;)");
        CHECKS.is("LIKE is another one, so the NAME is not its", x.signs(0, 2, 0), 7);
        int[][] none = {{1, 0, 0}, {-1, 0, 0}, {0, 4, 0}, {0, -1, 0}, {0, 0, 100}, {0, 0, -1}};
        for (int[] n : none) {
            CHECKS.is("signs of none", x.signs(n[0], n[1], n[2]), -1);
            CHECKS.is("say of none", x.say(n[0], n[1], n[2]), -1);
        }
    }

    private static void withoutHouses() {
        PretendDesk x = new PretendDesk();
        Checks.page(x, "box(pass;)");
        x.marks(60, 50, 99);
        CHECKS.is("2 alone", x.signs(0, 0, 0), 2);
        CHECKS.is("let be", x.say(0, 0, 0), 0);
        x.marks(60, 51, 99);
        CHECKS.is("none", x.signs(0, 0, 0), 0);
        Checks.house(x, "a");
        CHECKS.is("a house without pages", x.signs(0, 0, 0), 4);
    }

    private static void warn() {
        PretendDesk x = crying();
        CHECKS.is("warn(0, 0, 0)", x.warn(0, 0, 0), 1);
        Checks.house(x, "shop");
        Checks.own(x, 1, "link(card;)");
        Checks.page(x, "link(card;text land 3;)");
        Checks.page(x, "box(logo 1;form(text;pass;))");
        Checks.page(x, "link(card;card;)");
        CHECKS.is("warn(0, 0, 0)", x.warn(0, 0, 0), 5);
        CHECKS.is("warn(1, 0, 0)", x.warn(1, 0, 0), 10);
        Checks.name(x, 1, "shop");
        CHECKS.is("its own", x.warn(1, 0, 0), 8);
        x.stands(3, 5, 0);
        x.marks(1, 40, 30);
        CHECKS.is("by other MARKS", x.warn(0, 0, 0), 4);
        CHECKS.is("by other MARKS", x.warn(1, 0, 0), 0);
        x.marks(2, 40, 30);
        CHECKS.is("on DAY 31", x.warn(1, 0, 31), 8);
        CHECKS.is("on DAY 36", x.warn(1, 0, 36), 0);
        x.marks(4, 40, 30);
        CHECKS.is("LAND 0", x.warn(0, 0, 0), 5);
        CHECKS.is("LAND 2", x.warn(0, 2, 0), 4);
        CHECKS.is("house 2", x.warn(2, 0, 0), -1);
        CHECKS.is("house -1", x.warn(-1, 0, 0), -1);
        CHECKS.is("land 4", x.warn(0, 4, 0), -1);
        CHECKS.is("land -1", x.warn(0, -1, 0), -1);
        CHECKS.is("day 100", x.warn(0, 0, 100), -1);
        CHECKS.is("day -1", x.warn(0, 0, -1), -1);
        x = new PretendDesk();
        Checks.house(x, "a");
        CHECKS.is("no pages", x.warn(0, 0, 0), 0);
    }
}
