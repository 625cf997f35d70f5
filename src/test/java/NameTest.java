/** Promises 4, 5, 9, 10: house, name, alike, spell. */
public final class NameTest {
    private static final Checks CHECKS = new Checks("NameTest");

    public static void main(String[] args) {
        house();
        name();
        alike();
        spell();
        CHECKS.end();
    }

    private static void house() {
        PretendDesk x = new PretendDesk();
        CHECKS.is("none at all", Checks.house(x, ""), -1);
        CHECKS.fault("none at all", x, 1, 0);
        CHECKS.is("a blank", Checks.house(x, "a b"), -1);
        CHECKS.fault("a blank", x, 1, 1);
        CHECKS.is("a great letter", Checks.house(x, "abC"), -1);
        CHECKS.fault("a great letter", x, 1, 2);
        CHECKS.is("13 signs", Checks.house(x, "abcdefghijklm"), -1);
        CHECKS.fault("13 signs", x, 2, 12);
        CHECKS.is("20 signs", Checks.house(x, "abcdefghijklmnopqrst"), -1);
        CHECKS.fault("20 signs", x, 2, 12);
        CHECKS.is("1 goes first", Checks.house(x, "abcdefghijklmno-"), -1);
        CHECKS.fault("1 goes first", x, 1, 15);
        CHECKS.is("none came", x.count(0), 0);
        CHECKS.is("12 signs", Checks.house(x, "abcdefghij09"), 0);
        CHECKS.fault("12 signs", x, 0, -1);
        CHECKS.is("the tape is empty", x.end(1), -1);
        CHECKS.is("one sign", Checks.house(x, "9"), 1);
        CHECKS.is("the same name", Checks.house(x, "9"), 2);
        CHECKS.is("house 3", Checks.house(x, "z"), 3);
        CHECKS.is("house 4", Checks.house(x, "a"), 4);
        Checks.page(x, "?");
        CHECKS.is("there are 5", Checks.house(x, "b"), -2);
        CHECKS.fault("there are 5", x, 0, -1);
        CHECKS.is("the tape is empty", x.end(1), -1);
        CHECKS.is("there are 5", x.count(0), 5);
        // Whatever the text: there are 5, and no FAULT.
        String[] texts = {"", "b?", "abcdefghijklm", "abcdefghijklm-", " ", "b"};
        for (String text : texts) {
            Checks.page(x, "?");
            CHECKS.is("there are 5 '" + text + "'", Checks.house(x, text), -2);
            CHECKS.fault("there are 5 '" + text + "'", x, 0, -1);
            CHECKS.is("the tape is empty '" + text + "'", x.end(1), -1);
        }
        CHECKS.is("there are 5", x.count(0), 5);
        Checks.page(x, "box;");
        Checks.name(x, 0, "a");
        CHECKS.is("the NAMES stay", x.spell(0, 4), 0);
        CHECKS.is("the NAMES stay", x.spell(0, 3), 6);
        int[] edges = {'a' - 1, 'z' + 1, '0' - 1, '9' + 1, 10, 32, 0, 255};
        x = new PretendDesk();
        for (int edge : edges) {
            CHECKS.is("byte " + edge, Checks.house(x, "a" + (char) edge), -1);
            CHECKS.fault("byte " + edge, x, 1, 1);
        }
    }

    private static void name() {
        PretendDesk x = new PretendDesk();
        CHECKS.is("no such page", Checks.name(x, 0, "a"), false);
        CHECKS.fault("no such page", x, 0, -1);
        CHECKS.is("the tape is empty", x.end(1), -1);
        CHECKS.is("no such page, no text is read", Checks.name(x, -1, "?"), false);
        CHECKS.fault("no such page", x, 0, -1);
        Checks.house(x, "abc");
        Checks.page(x, "box;");
        CHECKS.is("none at first", x.spell(0, 0), -1);
        CHECKS.is("name", Checks.name(x, 0, "abc"), true);
        CHECKS.fault("name", x, 0, -1);
        CHECKS.is("the tape is empty", x.end(1), -1);
        CHECKS.is("it is the same", x.spell(0, 0), 0);
        CHECKS.is("a FAULT", Checks.name(x, 0, "ab c"), false);
        CHECKS.fault("a FAULT", x, 1, 2);
        CHECKS.is("none at all", Checks.name(x, 0, ""), false);
        CHECKS.fault("none at all", x, 1, 0);
        CHECKS.is("13 signs", Checks.name(x, 0, "0123456789012"), false);
        CHECKS.fault("13 signs", x, 2, 12);
        CHECKS.is("the NAME stays", x.spell(0, 0), 0);
        CHECKS.is("12 signs", Checks.name(x, 0, "012345678901"), true);
        CHECKS.is("page 1", Checks.name(x, 1, "abc"), false);
    }

    private static void alike() {
        PretendDesk x = new PretendDesk();
        Checks.house(x, "a0");
        Checks.page(x, "box;");
        Checks.name(x, 0, "z9");
        CHECKS.is("not ALIKE", x.spell(0, 0), 12);
        CHECKS.is("alike", x.alike('a', 'z', 1), true);
        CHECKS.is("one pair", x.spell(0, 0), 7);
        CHECKS.is("alike", x.alike('9', '0', 5), true);
        CHECKS.is("both ways round", x.spell(0, 0), 6);
        CHECKS.is("alike anew", x.alike('z', 'a', 3), true);
        CHECKS.is("the new one", x.spell(0, 0), 8);
        CHECKS.is("6: not ALIKE", x.alike('z', 'a', 6), true);
        CHECKS.is("6: not ALIKE", x.spell(0, 0), 11);
        CHECKS.is("price 7", x.alike('z', 'a', 7), false);
        CHECKS.is("price 0", x.alike('z', 'a', 0), false);
        CHECKS.is("price -1", x.alike('z', 'a', -1), false);
        CHECKS.is("they are one", x.alike('a', 'a', 2), false);
        int[] none = {'a' - 1, 'z' + 1, '0' - 1, '9' + 1, 0, -1, 256 + 'a', Integer.MIN_VALUE, Integer.MAX_VALUE};
        for (int sign : none) {
            CHECKS.is("no sign " + sign, x.alike('a', sign, 2), false);
            CHECKS.is("no sign " + sign, x.alike(sign, 'a', 2), false);
        }
        CHECKS.is("all stays", x.spell(0, 0), 11);
        CHECKS.is("a letter and a digit", x.alike('a', '9', 2), true);
        x.alike('z', 'y', 1);
        Checks.name(x, 0, "a0");
        Checks.house(x, "ay");
        CHECKS.is("z is no 0", x.spell(0, 1), 6);
    }

    private static int price(PretendDesk x, String its, String owners) {
        x.image(0);
        Checks.name(x, 0, its);
        int house = Checks.house(x, owners);
        int price = x.spell(0, house);
        x.again(0);
        return price;
    }

    private static void spell() {
        PretendDesk x = new PretendDesk();
        CHECKS.is("no page", x.spell(0, 0), -1);
        Checks.page(x, "box;");
        Checks.name(x, 0, "a");
        CHECKS.is("no house", x.spell(0, 0), -1);
        CHECKS.is("house -1", x.spell(0, -1), -1);
        Checks.house(x, "a");
        CHECKS.is("page 1", x.spell(1, 0), -1);
        CHECKS.is("page -1", x.spell(-1, 0), -1);
        CHECKS.is("house 1", x.spell(0, 1), -1);
        CHECKS.is("same", price(x, "bank", "bank"), 0);
        CHECKS.is("one put in", price(x, "bank", "banks"), 4);
        CHECKS.is("one taken out", price(x, "bbank", "bank"), 4);
        CHECKS.is("another one", price(x, "bink", "bank"), 6);
        CHECKS.is("two neighbours", price(x, "bnak", "bank"), 3);
        CHECKS.is("two pairs of neighbours", price(x, "abnk", "bakn"), 6);
        CHECKS.is("the last two", price(x, "bakn", "bank"), 3);
        // Not 3 + 4 by way of "ac": no sign is changed twice.
        CHECKS.is("no sign twice", price(x, "ca", "abc"), 12);
        CHECKS.is("all else", price(x, "a", "bbbbbbbbbbbb"), 6 + 44);
        CHECKS.is("12 and 12", price(x, "aaaaaaaaaaaa", "bbbbbbbbbbbb"), 72);
        x.alike('o', '0', 1);
        x.alike('l', '1', 2);
        CHECKS.is("alike", price(x, "go0g1e", "google"), 3);
        CHECKS.is("alike in place of neighbours", price(x, "0o", "o0"), 2);
        x.alike('a', 'b', 5);
        CHECKS.is("neighbours in place of alike", price(x, "ab", "ba"), 3);
        CHECKS.is("a digit", price(x, "b4nk", "bank"), 6);
    }
}
