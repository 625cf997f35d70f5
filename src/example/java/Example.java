/** A bank's page, a page that came and pretends to be it, and what the desk says of that. */
public final class Example {
    public static void main(String[] args) {
        PretendDesk desk = new PretendDesk();

        // The tape: feed puts twenty bytes behind it, end leaves the first ones alone.
        System.out.println(desk.feed(0x62616E6B, 0, 0, 0, 0));  // 20: "bank" and 16 bytes more
        System.out.println(desk.end(4));                        // 4: "bank"

        // A text that is taken: house takes the tape as the NAME of a HOUSE.
        System.out.println(desk.house());                       // 0: the first HOUSE
        System.out.println(desk.fault(0));                      // 0: no FAULT
        System.out.println(desk.end(1));                        // -1: the tape is empty now
        tell(desk, "box 3 (logo 3; pass; text;)");
        System.out.println(desk.own(0));                        // 1: HOUSE 0 has one PAGE of its own
        tell(desk, "box 3 (logo 3; pass; text; link 5 land 2 day 4;)");
        System.out.println(desk.page());                        // 0: the first PAGE that came
        tell(desk, "bamk");
        System.out.println(desk.name(0));                       // true: to "bamk" it takes what is asked
        System.out.println(desk.stands(0, 10, 0b11));           // true: since DAY 10, with PIECES 0 and 1

        // Answers: what a PERSON of a LAND sees on a DAY.
        System.out.println(desk.boxes(0, 0, 20));               // 4: LAND 0 is not shown the link
        System.out.println(desk.boxes(0, 2, 20));               // 5: LAND 2 is, from DAY 4 on
        System.out.println(desk.like(0, 0, 20));                // 0: it is like HOUSE 0
        System.out.println(desk.look(0, 0, 0, 20));             // 0: for LAND 0 it is the bank's own
        System.out.println(desk.look(0, 0, 2, 20));             // 2: for LAND 2 a BOX is put in
        System.out.println(desk.asks(0, 0, 20));                // 50: the WORTH of a pass
        System.out.println(desk.signs(0, 0, 20));               // 7: it looks like it, asks, takes it elsewhere
        System.out.println(desk.say(0, 0, 20));                 // 2: a CRY
        System.out.println(desk.say(0, 0, 41));                 // 1: AGE is 31, above MARK c: a DOUBT
        System.out.println(desk.spell(0, 0));                   // 6: m for n
        System.out.println(desk.alike('m', 'n', 1));            // true
        System.out.println(desk.spell(0, 0));                   // 1: they are ALIKE now
        System.out.println(desk.late(0, 2));                    // 4: the first DAY with another tree for LAND 2
        System.out.println(desk.late(0, 0));                    // -1: NONE, as there is no such DAY for LAND 0

        // What can't be done: a text with a FAULT ..
        tell(desk, "box 12;");
        System.out.println(desk.page());                        // -1: NONE, a FAULT
        System.out.println(desk.fault(0));                      // 2: a NUMBER that can't be
        System.out.println(desk.fault(1));                      // 4: its first byte's place
        tell(desk, "box(pass");
        System.out.println(desk.page());                        // -1: NONE, a FAULT
        System.out.println(desk.fault(0));                      // 1: no text goes on so
        System.out.println(desk.fault(1));                      // 8: the end's place
        System.out.println(desk.count(1));                      // 1: no PAGE came
        // .. a text that is not read at all ..
        tell(desk, "box;");
        System.out.println(desk.own(3));                        // -2: there is no HOUSE 3
        System.out.println(desk.fault(0));                      // 0: no text was read
        System.out.println(desk.end(1));                        // -1: the tape is empty all the same
        // .. and numbers that are none.
        System.out.println(desk.say(1, 0, 0));                  // -1: NONE, there is no PAGE 1
        System.out.println(desk.box(0, 9, 0));                  // -2: there is no BOX 9
        System.out.println(desk.marks(61, 40, 30));             // false: MARK a is 60 at most
        System.out.println(desk.count(3));                      // 10: MARK a stays
    }

    /** A text of at most 500 bytes on the tape, whatever stood on it. */
    static void tell(PretendDesk desk, String text) {
        desk.end(0);
        for (int from = 0; from < text.length(); from += 20) {
            desk.feed(four(text, from), four(text, from + 4), four(text, from + 8),
                    four(text, from + 12), four(text, from + 16));
        }
        desk.end(text.length());
    }

    /** Four signs of a text as one number, the first one highest; 0 behind its end. */
    static int four(String text, int from) {
        int number = 0;
        for (int i = from; i < from + 4; i++) {
            number = number << 8 | (i < text.length() ? text.charAt(i) : 0);
        }
        return number;
    }
}
