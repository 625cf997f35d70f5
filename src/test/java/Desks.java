import java.util.List;

/** Desks on which much is told already, made by the same calls each time. */
final class Desks {
    /** Something of all; the tape has "win.now", the FAULT is 2 at 4; images 0 and 1 are other ones. */
    static final Edges.Maker RICH = Desks::rich;
    /** The same without an image, and an empty tape. */
    static final Edges.Maker TOLD = Desks::told;
    /** 5 HOUSES with 2 PAGES each, 10 PAGES that came, 16 CASES, 6 CHANGES of PAGE 0. */
    static final Edges.Maker FULL = Desks::full;
    /** 20 WORDS "wa" .. "wt" with MEANINGS by turns, 8 PATTERNS, a LETTER. */
    static final Edges.Maker WORDY = Desks::wordy;
    static final Edges.Maker NEW = PretendDesk::new;

    private static final List<String> FULL_PAGES = List.of("box(logo;pass;)", "box(logo;pass;link;)", "form(card;)",
            "form(card;pin 3;)", "text;", "link(text;text;)", "pin;", "card(pass land 1;)", "logo day 4;", "box(pin;pin;pin;)");

    private Desks() {
    }

    /** A desk with these PAGES that came and one HOUSE "bank" with one PAGE of its own. */
    static Edges.Maker bank(String own, String... pages) {
        return () -> {
            PretendDesk x = came(pages).make();
            Checks.house(x, "bank");
            Checks.own(x, 0, own);
            return x;
        };
    }

    /** A desk with these PAGES that came alone. */
    static Edges.Maker came(String... pages) {
        return () -> {
            PretendDesk x = new PretendDesk();
            for (String page : pages) {
                Checks.page(x, page);
            }
            return x;
        };
    }

    private static PretendDesk told() {
        PretendDesk x = new PretendDesk();
        tellHouses(x);
        tellPages(x);
        x.keep(0, 0, true);
        x.keep(1, 9, false);
        x.keep(2, 40, true);
        x.change(0, 0, 4, 0, 7);
        x.change(0, 2, 0, 40, 20);
        x.change(0, 1, 0, 0, 3);
        x.change(1, 2, 0, 50, 9);
        x.relay(2, 3);
        x.relay(5, 6);
        x.relay(6, 5);
        x.owner(3, 0);
        x.owner(4, 1);
        Checks.program(x, 0, "read pass to 0;read card to 1;mix 0 to 1;send 1 to 2;send 0 to 4;send 0 to 6;");
        Checks.program(x, 1, "read pin to 0;if 0<50 go 3;go 0;send 0 to 3;");
        tellWords(x);
        return x;
    }

    private static void tellHouses(PretendDesk x) {
        Checks.house(x, "bank");
        Checks.own(x, 0, "box(logo 1;form(text;pass;))");
        Checks.own(x, 0, "form(text land 2;pass day 8;)");
        Checks.house(x, "sh0p");
        Checks.own(x, 1, "link(card;)");
        Checks.house(x, "none");
        x.alike('m', 'n', 1);
        x.alike('o', '0', 2);
        x.picture(false, 0, 0b11111);
        x.picture(false, 1, 0b11100000000);
    }

    private static void tellPages(PretendDesk x) {
        Checks.page(x, "box 2(logo 1;form(text;pass;card;)link land 2;)");
        Checks.page(x, "link(card;text land 3;pin day 7;)");
        Checks.page(x, "box(logo 1;form(text;pass;))");
        Checks.page(x, "card land 1;");
        Checks.name(x, 0, "bamk");
        Checks.name(x, 1, "shop");
        Checks.name(x, 3, "x");
        x.stands(0, 5, 0b111);
        x.stands(1, 10, 0b1110);
        x.stands(2, 0, 0b11);
        x.worth(7, 3);
        x.marks(9, 41, 31);
        x.picture(true, 0, 0b10111);
        x.picture(true, 1, 1 << 24);
    }

    private static void tellWords(PretendDesk x) {
        Checks.word(x, "win", 1);
        Checks.word(x, "now", 2);
        Checks.word(x, "key", 3);
        x.pattern(0b110, 10);
        x.pattern(0b1000, -4);
        Checks.letter(x, "win now. the key. win");
    }

    private static PretendDesk rich() {
        PretendDesk x = told();
        Checks.tell(x, "key.win");
        x.image(0);
        Checks.page(x, "pin;");
        x.marks(10, 40, 30);
        x.image(1);
        x.worth(0, 1);
        Checks.page(x, "box 10;");
        Checks.tell(x, "win.now");
        return x;
    }

    private static PretendDesk full() {
        PretendDesk x = new PretendDesk();
        for (int k = 0; k < 5; k++) {
            Checks.house(x, "house" + k);
            Checks.own(x, k, FULL_PAGES.get(2 * k));
            Checks.own(x, k, FULL_PAGES.get(2 * k + 1));
        }
        for (int k = 0; k < 10; k++) {
            Checks.page(x, FULL_PAGES.get(k));
        }
        for (int k = 0; k < 16; k++) {
            x.keep(k % 10, 3 * k, k % 3 == 0);
        }
        for (int k = 0; k < 6; k++) {
            x.change(0, k % 3, 0, k == 5 ? 31 : 5 + k % 3, 1 + k);
        }
        return x;
    }

    private static PretendDesk wordy() {
        PretendDesk x = new PretendDesk();
        for (int k = 0; k < 20; k++) {
            Checks.word(x, word(k), k % 8);
        }
        for (int k = 0; k < 8; k++) {
            x.pattern(1 << k, 1 + 10 * k);
        }
        Checks.letter(x, "wa wb. wc. wh wi. wt");
        return x;
    }

    /** The WORDS of WORDY. */
    static String word(int k) {
        return "w" + (char) ('a' + k);
    }
}
