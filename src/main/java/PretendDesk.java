/**
 * Pages that pretend: whom a page is like, what it asks, where it takes it and since when.
 *
 * <p>The words PAGE, BOX, HOUSE, LOOK, LIKE and so on are those of ../shared/DOC.md. All that is
 * told stands in one Told, so that an image is a copy of it; what is only reckoned with stands in
 * rows that are made once, because a run has one small room for all its calls.
 */
public final class PretendDesk {
    public static final int NONE = -1;

    private static final int REFUSED = -2;
    private static final int CRY = 2;

    private static final int LOOKS_LIKE = 1;
    private static final int ASKS_FOR = 2;
    private static final int ELSEWHERE = 4;

    private static final int KINDS = 8;
    private static final int LANDS = 4;
    private static final int DAYS = 100;
    private static final int COLOURS = 10;
    private static final int PIECES = 20;
    private static final int ADDRESSES = 10;
    private static final int REGISTERS = 6;
    private static final int MEANINGS = 8;
    private static final int SQUARES = 25;
    private static final int SIDE = 5;
    private static final int MADE = 1000;

    private static final int MOST_BYTES = 500;
    private static final int MOST_BOXES = 14;
    private static final int MOST_DEEP = 6;
    private static final int MOST_HOUSES = 5;
    private static final int MOST_OWN = 2;
    private static final int MOST_PAGES = 10;
    private static final int MOST_CASES = 16;
    private static final int MOST_CHANGES = 6;
    private static final int MOST_LINES = 20;
    private static final int MOST_STEPS = 200;
    private static final int MOST_NAME = 12;
    private static final int MOST_WORD = 8;
    private static final int MOST_WORDS = 20;
    private static final int MOST_PATTERNS = 8;
    private static final int MOST_IMAGES = 3;
    // A sentence has a letter and a dot at least, but the last one may lack the dot.
    private static final int MOST_SENTENCES = MOST_BYTES / 2 + 1;

    private static final int MOST_A = 60;
    private static final int MOST_B = 200;
    private static final int MOST_C = 99;
    private static final int MOST_WORTH = 99;
    private static final int MOST_PRICE = 99;
    private static final int MOST_K = 99;
    private static final int MOST_W = 999;
    private static final int MOST_Q = 9999;
    private static final int MOST_WEIGHT = 99;
    private static final int MOST_BITS = 16;

    // The sorts of a CHANGE; what a CHANGE tells stands in a row of FIELDS numbers.
    private static final int TAKE_OUT = 0;
    private static final int COLOUR_ANEW = 1;
    private static final int WAIT = 2;
    private static final int FIELDS = 4;

    private static final int SIGNS = 36;
    private static final int UNLIKE_SIGN = 6;
    private static final int PUT_IN = 4;
    private static final int WAY_ROUND = 3;
    private static final int SPELL_SIDE = MOST_NAME + 1;

    private final Told now;
    private final Told[] images;
    private final Room room;
    private final Forger forger;
    private final Best best;
    private final Runner runner;
    // A text is read into these first, for what stands stays if the text has a FAULT.
    private final Page freshPage;
    private final int[] freshLines;
    private final int[] prices;
    private final int[] heard;

    public PretendDesk() {
        now = new Told();
        images = new Told[MOST_IMAGES];
        room = new Room(now);
        forger = new Forger(now, room);
        best = new Best();
        runner = new Runner();
        freshPage = new Page();
        freshLines = new int[MOST_LINES * FIELDS];
        prices = new int[SPELL_SIDE * SPELL_SIDE];
        heard = new int[MOST_SENTENCES];
    }

    // ---- the tape and what it tells

    public int feed(int a, int b, int c, int d, int e) {
        Tape tape = now.tape;
        if (tape.length + 20 > MOST_BYTES) {
            return NONE;
        }
        tape.put(a);
        tape.put(b);
        tape.put(c);
        tape.put(d);
        tape.put(e);
        return tape.length;
    }

    public int end(int n) {
        if (n < 0 || n > now.tape.length) {
            return NONE;
        }
        now.tape.length = n;
        return n;
    }

    public int house() {
        if (now.houses >= MOST_HOUSES) {
            now.tape.take();
            return REFUSED;
        }
        if (!now.tape.takeRow(MOST_NAME, true)) {
            return NONE;
        }
        now.house[now.houses].name = now.tape.row();
        now.houses++;
        return now.houses - 1;
    }

    public boolean name(int page) {
        if (!isPage(page)) {
            now.tape.take();
            return false;
        }
        if (!now.tape.takeRow(MOST_NAME, true)) {
            return false;
        }
        now.came[page].name = now.tape.row();
        return true;
    }

    public int own(int house) {
        if (!isHouse(house) || now.house[house].owned >= MOST_OWN) {
            now.tape.take();
            return REFUSED;
        }
        if (!now.tape.takePage(freshPage)) {
            return NONE;
        }
        House owner = now.house[house];
        owner.page[owner.owned].copy(freshPage);
        owner.owned++;
        return owner.owned;
    }

    public int page() {
        if (now.pages >= MOST_PAGES) {
            now.tape.take();
            return REFUSED;
        }
        if (!now.tape.takePage(freshPage)) {
            return NONE;
        }
        now.came[now.pages].text.copy(freshPage);
        now.pages++;
        return now.pages - 1;
    }

    public int fault(int what) {
        if (what == 0) {
            return now.tape.fault;
        }
        return what == 1 ? now.tape.faultPlace : NONE;
    }

    // ---- names

    public boolean alike(int a, int b, int price) {
        int one = signNumber(a);
        int two = signNumber(b);
        if (one == NONE || two == NONE || one == two || price < 1 || price > UNLIKE_SIGN) {
            return false;
        }
        now.alike[one * SIGNS + two] = price;
        now.alike[two * SIGNS + one] = price;
        return true;
    }

    public int spell(int page, int house) {
        if (!isPage(page) || !isHouse(house)) {
            return NONE;
        }
        String its = now.came[page].name;
        String owners = now.house[house].name;
        if (its == null || owners == null) {
            return NONE;
        }
        return spelled(its, owners);
    }

    /** The least price row by row; a change looks back two signs at most, as no sign is changed twice. */
    private int spelled(String from, String to) {
        int rows = Math.min(from.length(), MOST_NAME);
        int columns = Math.min(to.length(), MOST_NAME);
        for (int i = 0; i <= rows; i++) {
            for (int j = 0; j <= columns; j++) {
                prices[i * SPELL_SIDE + j] = leastSpelled(from, i, to, j);
            }
        }
        return prices[rows * SPELL_SIDE + columns];
    }

    /** The least price for the first i signs and the first j ones, i and j within the texts. */
    private int leastSpelled(String from, int i, String to, int j) {
        if (i == 0 || j == 0) {
            return (i + j) * PUT_IN;
        }
        char a = from.charAt(i - 1);
        char b = to.charAt(j - 1);
        int at = i * SPELL_SIDE + j;
        int least = Math.min(prices[at - SPELL_SIDE], prices[at - 1]) + PUT_IN;
        least = Math.min(least, prices[at - SPELL_SIDE - 1] + signPrice(a, b));
        if (i > 1 && j > 1 && a == to.charAt(j - 2) && b == from.charAt(i - 2)) {
            least = Math.min(least, prices[at - 2 * SPELL_SIDE - 2] + WAY_ROUND);
        }
        return least;
    }

    private int signPrice(int a, int b) {
        int one = signNumber(a);
        int two = signNumber(b);
        if (a == b) {
            return 0;
        }
        return one == NONE || two == NONE ? UNLIKE_SIGN : now.alike[one * SIGNS + two];
    }

    private static int signNumber(int sign) {
        if (sign >= 'a' && sign <= 'z') {
            return sign - 'a';
        }
        return sign >= '0' && sign <= '9' ? sign - '0' + 26 : NONE;
    }

    // ---- what is told by numbers

    public boolean stands(int page, int day, int pieces) {
        if (!isPage(page) || !isDay(day) || pieces < 0 || pieces >= 1 << PIECES) {
            return false;
        }
        now.came[page].since = day;
        now.came[page].pieces = pieces;
        return true;
    }

    public boolean worth(int kind, int worth) {
        if (kind < 0 || kind >= KINDS || worth < 0 || worth > MOST_WORTH) {
            return false;
        }
        now.worth[kind] = worth;
        return true;
    }

    public boolean marks(int a, int b, int c) {
        if (a < 0 || a > MOST_A || b < 0 || b > MOST_B || c < 0 || c > MOST_C) {
            return false;
        }
        now.markA = a;
        now.markB = b;
        now.markC = c;
        return true;
    }

    // ---- trees

    public int boxes(int page, int land, int day) {
        if (!isPage(page) || !isPerson(land, day)) {
            return NONE;
        }
        room.mine.open(now.came[page].text, land, day);
        return room.mine.shown();
    }

    public int box(int page, int k, int what) {
        if (!isPage(page) || what < 0 || what >= Page.WIDE) {
            return REFUSED;
        }
        Page text = now.came[page].text;
        return k < 0 || k >= text.count ? REFUSED : text.told(k, what);
    }

    public int far(int a, int b, int land, int day) {
        if (!isPage(a) || !isPage(b) || !isPerson(land, day)) {
            return NONE;
        }
        room.mine.open(now.came[a].text, land, day);
        room.its.open(now.came[b].text, land, day);
        return room.apart();
    }

    public int look(int page, int house, int land, int day) {
        if (!isPage(page) || !isHouse(house) || !isPerson(land, day)) {
            return NONE;
        }
        room.mine.open(now.came[page].text, land, day);
        return room.lookAt(now.house[house], land, day);
    }

    public int like(int page, int land, int day) {
        if (!isPage(page) || !isPerson(land, day)) {
            return NONE;
        }
        return likeOf(page, land, day);
    }

    /** LIKE of a PAGE that there is. */
    private int likeOf(int page, int land, int day) {
        room.mine.open(now.came[page].text, land, day);
        room.liken(land, day);
        return room.like;
    }

    public int asks(int page, int land, int day) {
        if (!isPage(page) || !isPerson(land, day)) {
            return NONE;
        }
        room.mine.open(now.came[page].text, land, day);
        return room.mine.asked(now.worth);
    }

    public int strange() {
        int least = NONE;
        for (int one = 0; one < now.houses; one++) {
            for (int k = 0; k < now.house[one].owned; k++) {
                room.mine.open(now.house[one].page[k], 0, 0);
                for (int two = one + 1; two < now.houses; two++) {
                    int look = room.lookAt(now.house[two], 0, 0);
                    boolean there = now.house[two].owned > 0;
                    if (there && (least == NONE || look < least)) {
                        least = look;
                    }
                }
            }
        }
        return least;
    }

    // ---- signs

    public int signs(int page, int land, int day) {
        if (!isPage(page) || !isPerson(land, day)) {
            return NONE;
        }
        return signsOf(page, land, day);
    }

    /** SIGNS of a PAGE that there is; LIKE stands in the room behind it. */
    private int signsOf(int page, int land, int day) {
        Came came = now.came[page];
        room.mine.open(came.text, land, day);
        room.liken(land, day);
        return room.signsAt(came.name, came.age(day));
    }

    public int say(int page, int land, int day) {
        if (!isPage(page) || !isPerson(land, day)) {
            return NONE;
        }
        return said(signsOf(page, land, day));
    }

    private static int said(int signs) {
        return Math.max(0, Integer.bitCount(signs) - 1);
    }

    public int warn(int house, int land, int day) {
        if (!isHouse(house) || !isPerson(land, day)) {
            return NONE;
        }
        int cries = 0;
        for (int page = 0; page < now.pages; page++) {
            if (said(signsOf(page, land, day)) == CRY && room.like == house) {
                cries |= 1 << page;
            }
        }
        return cries;
    }

    // ---- the shut room

    public int differs(int page, int land, int day, int other, int its) {
        if (!isPage(page) || !isPerson(land, day) || !isPerson(other, its)) {
            return NONE;
        }
        room.mine.open(now.came[page].text, land, day);
        room.its.open(now.came[page].text, other, its);
        return room.apart();
    }

    public int hides(int page, int day) {
        if (!isPage(page) || !isDay(day)) {
            return NONE;
        }
        int most = 0;
        for (int land = 0; land < LANDS; land++) {
            room.mine.open(now.came[page].text, land, day);
            for (int other = land + 1; other < LANDS; other++) {
                room.its.open(now.came[page].text, other, day);
                most = Math.max(most, room.apart());
            }
        }
        return most;
    }

    /** A BOX that is shown stays so on later days: the tree is another one as soon as it has more of them. */
    public int late(int page, int land) {
        if (!isPage(page) || !isLand(land)) {
            return NONE;
        }
        Page text = now.came[page].text;
        room.mine.open(text, land, 0);
        int atFirst = room.mine.shown();
        for (int day = 1; day < DAYS; day++) {
            room.mine.open(text, land, day);
            if (room.mine.shown() != atFirst) {
                return day;
            }
        }
        return NONE;
    }

    // ---- marks that miss fewest

    public int keep(int page, int day, boolean pretends) {
        if (!isPage(page) || !isDay(day) || now.cases >= MOST_CASES) {
            return NONE;
        }
        now.casePage[now.cases] = page;
        now.caseDay[now.cases] = day;
        now.casePretends[now.cases] = pretends;
        now.cases++;
        return now.cases - 1;
    }

    public int fit(int h, int what) {
        if (h < 0 || h > MOST_CASES || what < 0 || what > 4) {
            return NONE;
        }
        best.clear();
        for (int k = 0; k < now.cases; k++) {
            Came came = now.came[now.casePage[k]];
            int day = now.caseDay[k];
            room.mine.open(came.text, 0, day);
            room.liken(0, day);
            boolean elsewhere = room.isElsewhere(came.name);
            best.add(elsewhere ? room.looks : Room.FAR_OFF, room.mine.asked(now.worth),
                    came.age(day), now.casePretends[k]);
        }
        return best.find(h) ? best.found(what) : NONE;
    }

    // ---- the forger

    public int change(int page, int sort, int box, int n, int price) {
        if (!isPage(page) || price < 1 || price > MOST_PRICE) {
            return NONE;
        }
        Came came = now.came[page];
        boolean onBox = box >= 0 && box < came.text.count;
        boolean sound = sort == TAKE_OUT && onBox
                || sort == COLOUR_ANEW && onBox && n >= 0 && n < COLOURS
                || sort == WAIT && isDay(n);
        if (!sound || came.changes >= MOST_CHANGES) {
            return NONE;
        }
        came.addChange(sort, box, n, price);
        return came.changes - 1;
    }

    public int pass(int page, int day, int k, int w, int what) {
        if (!isPage(page) || !isDay(day) || !isAim(k, w) || what < 0 || what > 2) {
            return NONE;
        }
        if (!forger.passes(now.came[page], day, k, w)) {
            return NONE;
        }
        if (what == 0) {
            return forger.price;
        }
        return what == 1 ? forger.set : forger.says;
    }

    public int met(int page, int day, int k, int w) {
        if (!isPage(page) || !isDay(day) || !isAim(k, w)) {
            return NONE;
        }
        int least = forger.leastMark(now.came[page], day, k, w);
        return least > MOST_A ? NONE : least;
    }

    private static boolean isAim(int k, int w) {
        return k >= 0 && k <= MOST_K && w >= 0 && w <= MOST_W;
    }

    // ---- rings

    public int odds(int a, int b, int what) {
        if (!isPage(a) || !isPage(b) || a == b || what < 0 || what > 1) {
            return NONE;
        }
        return (int) (what == 0 ? sharedWays(a, b) : allWays(b));
    }

    private long allWays(int b) {
        return choices(PIECES, Integer.bitCount(now.came[b].pieces));
    }

    private long sharedWays(int a, int b) {
        int first = Integer.bitCount(now.came[a].pieces);
        int second = Integer.bitCount(now.came[b].pieces);
        long ways = 0;
        for (int shared = shares(a, b); shared <= second; shared++) {
            ways += choices(first, shared) * choices(PIECES - first, second - shared);
        }
        return ways;
    }

    private int shares(int a, int b) {
        return Integer.bitCount(now.came[a].pieces & now.came[b].pieces);
    }

    /** In how many ways k of n can be taken, 0 if there are not so many. */
    private static long choices(int n, int k) {
        if (k > n) {
            return 0;
        }
        long ways = 1;
        for (int i = 0; i < k; i++) {
            ways = ways * (n - i) / (i + 1);
        }
        return ways;
    }

    public int ring(int page, int q) {
        if (!isPage(page) || q < 1 || q > MOST_Q) {
            return NONE;
        }
        int found = 1 << page;
        int asked = 0;
        // A ring grows by one page a round at least, or it is whole.
        for (int round = 0; round < MOST_PAGES && asked != found; round++) {
            for (int a = 0; a < now.pages; a++) {
                if (((found & ~asked) >> a & 1) != 0) {
                    found |= ofOneHand(a, q);
                    asked |= 1 << a;
                }
            }
        }
        return found;
    }

    private int ofOneHand(int a, int q) {
        int hand = 0;
        for (int b = 0; b < now.pages; b++) {
            if (b != a && shares(a, b) > 0 && sharedWays(a, b) * q <= allWays(b)) {
                hand |= 1 << b;
            }
        }
        return hand;
    }

    // ---- sketches

    public int sketch(int page, int n) {
        if (!isPage(page) || n < 0 || n > MOST_BITS) {
            return NONE;
        }
        return sketched(page, n);
    }

    private int sketched(int page, int n) {
        Page text = now.came[page].text;
        int x = 7;
        for (int k = 0; k < text.count; k++) {
            x = x * 31 + 10 * text.told(k, Page.KIND) + text.told(k, Page.COLOUR) & 0xFFFF;
        }
        return x & (1 << n) - 1;
    }

    public int leaves(int page, int m) {
        if (!isPage(page) || m < 1 || m > MOST_PAGES) {
            return NONE;
        }
        for (int n = MOST_BITS; n >= 0; n--) {
            if (fits(page, n) >= m) {
                return n;
            }
        }
        return NONE;
    }

    private int fits(int page, int n) {
        int mine = sketched(page, n);
        int same = 0;
        for (int other = 0; other < now.pages; other++) {
            if (sketched(other, n) == mine) {
                same++;
            }
        }
        return same;
    }

    // ---- programs

    public int program(int page) {
        if (!isPage(page)) {
            now.tape.take();
            return REFUSED;
        }
        int lines = now.tape.takeProgram(freshLines);
        if (lines == NONE) {
            return NONE;
        }
        now.came[page].tellLines(freshLines, lines);
        return lines;
    }

    public boolean relay(int a, int b) {
        if (!isAddress(a) || b != NONE && !isAddress(b) || a == b) {
            return false;
        }
        now.relay[a] = b;
        return true;
    }

    public boolean owner(int address, int house) {
        if (!isAddress(address) || house != NONE && !isHouse(house)) {
            return false;
        }
        now.owner[address] = house;
        return true;
    }

    public int goes(int address, boolean hands) {
        if (!isAddress(address)) {
            return NONE;
        }
        int at = address;
        for (int relays = 0; relays < ADDRESSES; relays++) {
            if (now.relay[at] == NONE) {
                return hands ? relays : at;
            }
            at = now.relay[at];
        }
        return NONE;
    }

    public int sent(int page, int x, int address) {
        if (!isPage(page) || !isMade(x) || !isAddress(address)) {
            return NONE;
        }
        runner.run(now.came[page], x);
        return runner.got[address];
    }

    public int steps(int page, int x) {
        if (!isPage(page) || !isMade(x)) {
            return NONE;
        }
        runner.run(now.came[page], x);
        return runner.steps;
    }

    public int taken(int page, int x) {
        if (!isPage(page) || x != NONE && !isMade(x)) {
            return NONE;
        }
        int home = likeOf(page, 0, 0);
        if (x != NONE) {
            return takenFrom(page, x, home);
        }
        int ever = 0;
        // ANSWERS are remainders by 100, so that greater x bring nothing new.
        for (int made = 0; made < 100; made++) {
            ever |= takenFrom(page, made, home);
        }
        return ever;
    }

    private int takenFrom(int page, int x, int home) {
        runner.run(now.came[page], x);
        int kinds = 0;
        for (int address = 0; address < ADDRESSES; address++) {
            int last = goes(address, false);
            boolean safe = home != NONE && last != NONE && now.owner[last] == home;
            if (!safe) {
                kinds |= runner.got[address];
            }
        }
        return kinds;
    }

    // ---- letters

    public int word(int meaning) {
        if (meaning < 0 || meaning >= MEANINGS) {
            now.tape.take();
            return REFUSED;
        }
        if (!now.tape.takeRow(MOST_WORD, false)) {
            return NONE;
        }
        return now.speech.tellWord(now.tape.bytes, now.tape.taken, meaning);
    }

    public int pattern(int meanings, int weight) {
        boolean sound = meanings >= 1 && meanings < 1 << MEANINGS
                && weight >= -MOST_WEIGHT && weight <= MOST_WEIGHT;
        return sound ? now.speech.tellPattern(meanings, weight) : NONE;
    }

    public int letter() {
        if (!now.tape.takeLetter()) {
            return NONE;
        }
        now.speech.tellLetter(now.tape.bytes, now.tape.taken);
        return now.speech.hear(heard);
    }

    public int sentence(int k) {
        return k >= 0 && k < now.speech.hear(heard) ? heard[k] : NONE;
    }

    public int holds(int pattern) {
        return pattern >= 0 && pattern < now.speech.patterns ? firstHolding(pattern) : NONE;
    }

    private int firstHolding(int pattern) {
        int sentences = now.speech.hear(heard);
        int wanted = now.speech.patternMeanings[pattern];
        for (int k = 0; k < sentences; k++) {
            if ((heard[k] & wanted) == wanted) {
                return k;
            }
        }
        return NONE;
    }

    public int presses() {
        int together = 0;
        for (int k = 0; k < now.speech.patterns; k++) {
            if (firstHolding(k) != NONE) {
                together += now.speech.patternWeight[k];
            }
        }
        return together;
    }

    // ---- pictures

    public boolean picture(boolean came, int k, int squares) {
        boolean there = came ? isPage(k) : isHouse(k);
        if (!there || squares < 0 || squares >= 1 << SQUARES) {
            return false;
        }
        if (came) {
            now.came[k].squares = squares;
        } else {
            now.house[k].squares = squares;
        }
        return true;
    }

    public int unlike(int page, int house) {
        return isPage(page) && isHouse(house) ? unlikeOf(page, house) : NONE;
    }

    public int near(int page) {
        if (!isPage(page)) {
            return NONE;
        }
        int nearest = NONE;
        int least = 0;
        for (int house = 0; house < now.houses; house++) {
            int unlike = unlikeOf(page, house);
            if (nearest == NONE || unlike < least) {
                nearest = house;
                least = unlike;
            }
        }
        return nearest;
    }

    private int unlikeOf(int page, int house) {
        int turned = now.came[page].squares;
        int least = SQUARES;
        for (int quarters = 0; quarters < 4; quarters++) {
            for (int down = -1; down <= 1; down++) {
                for (int right = -1; right <= 1; right++) {
                    int differ = moved(turned, down, right) ^ now.house[house].squares;
                    least = Math.min(least, Integer.bitCount(differ));
                }
            }
            turned = turnedRight(turned);
        }
        return least;
    }

    private static int turnedRight(int squares) {
        int turned = 0;
        for (int row = 0; row < SIDE; row++) {
            for (int column = 0; column < SIDE; column++) {
                int square = squares >> row * SIDE + column & 1;
                turned |= square << column * SIDE + SIDE - 1 - row;
            }
        }
        return turned;
    }

    private static int moved(int squares, int down, int right) {
        int moved = 0;
        for (int row = 0; row < SIDE; row++) {
            for (int column = 0; column < SIDE; column++) {
                int toRow = row + down;
                int toColumn = column + right;
                if (toRow >= 0 && toRow < SIDE && toColumn >= 0 && toColumn < SIDE) {
                    moved |= (squares >> row * SIDE + column & 1) << toRow * SIDE + toColumn;
                }
            }
        }
        return moved;
    }

    // ---- how many, and images

    public int count(int what) {
        switch (what) {
            case 0: return now.houses;
            case 1: return now.pages;
            case 2: return now.cases;
            case 3: return now.markA;
            case 4: return now.markB;
            case 5: return now.markC;
            case 6: return now.speech.words;
            case 7: return now.speech.patterns;
            case 8: return now.speech.hear(heard);
            default: return countOf(what / 10, what % 10);
        }
    }

    private int countOf(int tens, int ones) {
        if (tens == 1 && isPage(ones)) {
            return now.came[ones].changes;
        }
        if (tens == 2 && isHouse(ones)) {
            return now.house[ones].owned;
        }
        return tens == 3 && ones >= 0 && ones < KINDS ? now.worth[ones] : REFUSED;
    }

    public boolean image(int k) {
        if (k < 0 || k >= MOST_IMAGES) {
            return false;
        }
        // Made when first asked for, as most objects take none, and used again from then on.
        if (images[k] == null) {
            images[k] = new Told();
        }
        images[k].copy(now);
        return true;
    }

    public boolean again(int k) {
        if (k < 0 || k >= MOST_IMAGES || images[k] == null) {
            return false;
        }
        now.copy(images[k]);
        return true;
    }

    // ---- what there is

    private boolean isPage(int page) {
        return page >= 0 && page < now.pages;
    }

    private boolean isHouse(int house) {
        return house >= 0 && house < now.houses;
    }

    private static boolean isLand(int land) {
        return land >= 0 && land < LANDS;
    }

    private static boolean isDay(int day) {
        return day >= 0 && day < DAYS;
    }

    private static boolean isPerson(int land, int day) {
        return isLand(land) && isDay(day);
    }

    private static boolean isAddress(int address) {
        return address >= 0 && address < ADDRESSES;
    }

    private static boolean isMade(int x) {
        return x >= 0 && x < MADE;
    }

    private static boolean isDigit(char sign) {
        return sign >= '0' && sign <= '9';
    }

    private static boolean isLetter(char sign) {
        return sign >= 'a' && sign <= 'z';
    }

    private static boolean isBlank(char sign) {
        return sign == 10 || sign == 32;
    }

    /** A PAGE's text: a row of WIDE numbers for each BOX, in the order of the text. */
    private static final class Page {
        static final int KIND = 0;
        static final int COLOUR = 1;
        static final int WITHIN = 2;
        static final int LAND = 3;
        static final int DAY = 4;
        static final int WIDE = 5;

        final int[] row = new int[MOST_BOXES * WIDE];
        int count;

        int told(int box, int what) {
            return row[box * WIDE + what];
        }

        void tell(int box, int what, int number) {
            row[box * WIDE + what] = number;
        }

        boolean isFull() {
            return count >= MOST_BOXES;
        }

        /** Only for a PAGE that is not full. */
        int add(int kind, int within) {
            tell(count, KIND, kind);
            tell(count, WITHIN, within);
            count++;
            return count - 1;
        }

        boolean shows(int box, int land, int day) {
            int only = told(box, LAND);
            return (only == NONE || only == land) && day >= told(box, DAY);
        }

        void copy(Page from) {
            System.arraycopy(from.row, 0, row, 0, row.length);
            count = from.count;
        }
    }

    /** A HOUSE, its NAME, its PAGES and its PICTURE. */
    private static final class House {
        final Page[] page = new Page[MOST_OWN];
        String name;
        int owned;
        int squares;

        House() {
            for (int k = 0; k < page.length; k++) {
                page[k] = new Page();
            }
        }

        void copy(House from) {
            for (int k = 0; k < page.length; k++) {
                page[k].copy(from.page[k]);
            }
            name = from.name;
            owned = from.owned;
            squares = from.squares;
        }
    }

    /** A PAGE that came, with all that is told of it. */
    private static final class Came {
        final Page text = new Page();
        final int[] change = new int[MOST_CHANGES * FIELDS];
        final int[] line = new int[MOST_LINES * FIELDS];
        String name;
        int since;
        int pieces;
        int squares;
        int changes;
        int lines;

        int age(int day) {
            return Math.max(0, day - since);
        }

        /** Only while there are fewer than MOST_CHANGES. */
        void addChange(int sort, int box, int n, int price) {
            int at = changes * FIELDS;
            change[at] = sort;
            change[at + 1] = box;
            change[at + 2] = n;
            change[at + 3] = price;
            changes++;
        }

        void tellLines(int[] from, int count) {
            System.arraycopy(from, 0, line, 0, line.length);
            lines = count;
        }

        void copy(Came from) {
            text.copy(from.text);
            System.arraycopy(from.change, 0, change, 0, change.length);
            tellLines(from.line, from.lines);
            name = from.name;
            since = from.since;
            pieces = from.pieces;
            squares = from.squares;
            changes = from.changes;
        }
    }

    /** WORDS, PATTERNS and the LETTER, which is kept as it was told: WORDS may come behind it. */
    private static final class Speech {
        final char[] word = new char[MOST_WORDS * MOST_WORD];
        final int[] wordLength = new int[MOST_WORDS];
        final int[] wordMeaning = new int[MOST_WORDS];
        final int[] patternMeanings = new int[MOST_PATTERNS];
        final int[] patternWeight = new int[MOST_PATTERNS];
        final char[] letter = new char[MOST_BYTES];
        int words;
        int patterns;
        int length;

        /** The WORD at the head of a row, of no more letters than a WORD has. */
        int tellWord(char[] row, int count, int meaning) {
            int k = 0;
            while (k < words && !isWord(k, row, 0, count)) {
                k++;
            }
            if (k >= MOST_WORDS || count > MOST_WORD) {
                return REFUSED;
            }
            System.arraycopy(row, 0, word, k * MOST_WORD, count);
            wordLength[k] = count;
            wordMeaning[k] = meaning;
            words = Math.max(words, k + 1);
            return k;
        }

        private boolean isWord(int k, char[] row, int from, int to) {
            if (wordLength[k] != to - from) {
                return false;
            }
            for (int i = from; i < to; i++) {
                if (row[i] != word[k * MOST_WORD + i - from]) {
                    return false;
                }
            }
            return true;
        }

        int tellPattern(int meanings, int weight) {
            if (patterns >= MOST_PATTERNS) {
                return NONE;
            }
            patternMeanings[patterns] = meanings;
            patternWeight[patterns] = weight;
            patterns++;
            return patterns - 1;
        }

        void tellLetter(char[] bytes, int count) {
            length = Math.min(count, MOST_BYTES);
            System.arraycopy(bytes, 0, letter, 0, length);
        }

        /** MEANINGS of each SENTENCE into a row; how many there are. */
        int hear(int[] meanings) {
            int sentences = 0;
            int from = 0;
            int heard = 0;
            boolean hasWord = false;
            for (int i = 0; i <= length; i++) {
                char sign = i < length ? letter[i] : '.';
                if (isLetter(sign)) {
                    continue;
                }
                if (from < i) {
                    heard |= meaningOf(from, i);
                    hasWord = true;
                }
                from = i + 1;
                if (sign == '.' && hasWord && sentences < meanings.length) {
                    meanings[sentences] = heard;
                    sentences++;
                    heard = 0;
                    hasWord = false;
                }
            }
            return sentences;
        }

        /** The bit of the MEANING of the LETTER's word from a place to another one, 0 without. */
        private int meaningOf(int from, int to) {
            for (int k = 0; k < words; k++) {
                if (isWord(k, letter, from, to)) {
                    return 1 << wordMeaning[k];
                }
            }
            return 0;
        }

        void copy(Speech from) {
            System.arraycopy(from.word, 0, word, 0, word.length);
            System.arraycopy(from.wordLength, 0, wordLength, 0, wordLength.length);
            System.arraycopy(from.wordMeaning, 0, wordMeaning, 0, wordMeaning.length);
            System.arraycopy(from.patternMeanings, 0, patternMeanings, 0, patternMeanings.length);
            System.arraycopy(from.patternWeight, 0, patternWeight, 0, patternWeight.length);
            System.arraycopy(from.letter, 0, letter, 0, letter.length);
            words = from.words;
            patterns = from.patterns;
            length = from.length;
        }
    }

    /** All that is told: what an image keeps. */
    private static final class Told {
        final Tape tape = new Tape();
        final House[] house = new House[MOST_HOUSES];
        final Came[] came = new Came[MOST_PAGES];
        final Speech speech = new Speech();
        final int[] casePage = new int[MOST_CASES];
        final int[] caseDay = new int[MOST_CASES];
        final boolean[] casePretends = new boolean[MOST_CASES];
        final int[] worth = {0, 0, 50, 60, 70, 0, 0, 0};
        final int[] alike = new int[SIGNS * SIGNS];
        final int[] relay = new int[ADDRESSES];
        final int[] owner = new int[ADDRESSES];
        int houses;
        int pages;
        int cases;
        int markA = 10;
        int markB = 40;
        int markC = 30;

        Told() {
            for (int k = 0; k < house.length; k++) {
                house[k] = new House();
            }
            for (int k = 0; k < came.length; k++) {
                came[k] = new Came();
            }
            for (int k = 0; k < alike.length; k++) {
                alike[k] = UNLIKE_SIGN;
            }
            for (int k = 0; k < ADDRESSES; k++) {
                relay[k] = NONE;
                owner[k] = NONE;
            }
        }

        void copy(Told from) {
            tape.copy(from.tape);
            speech.copy(from.speech);
            for (int k = 0; k < house.length; k++) {
                house[k].copy(from.house[k]);
            }
            for (int k = 0; k < came.length; k++) {
                came[k].copy(from.came[k]);
            }
            System.arraycopy(from.casePage, 0, casePage, 0, casePage.length);
            System.arraycopy(from.caseDay, 0, caseDay, 0, caseDay.length);
            for (int k = 0; k < casePretends.length; k++) {
                casePretends[k] = from.casePretends[k];
            }
            System.arraycopy(from.worth, 0, worth, 0, worth.length);
            System.arraycopy(from.alike, 0, alike, 0, alike.length);
            System.arraycopy(from.relay, 0, relay, 0, relay.length);
            System.arraycopy(from.owner, 0, owner, 0, owner.length);
            houses = from.houses;
            pages = from.pages;
            cases = from.cases;
            markA = from.markA;
            markB = from.markB;
            markC = from.markC;
        }
    }

    /** The tape, the readings of it, and the FAULT of the latest one. */
    private static final class Tape {
        // A word's token is WORD and its number among WORDS; a sign's is the sign itself.
        private static final String WORDS =
                "box form pass card pin logo text link land day to read mix put send if go stop ";
        private static final int NO_MORE = 0;
        private static final int NUMBER = 1;
        private static final int NO_TOKEN = 2;
        private static final int WORD = 256;
        private static final int LAND = WORD + 8;
        private static final int DAY = WORD + 9;
        private static final int TO = WORD + 10;
        static final int READ = WORD + 11;
        static final int MIX = WORD + 12;
        static final int PUT = WORD + 13;
        static final int SEND = WORD + 14;
        static final int IF = WORD + 15;
        static final int GO = WORD + 16;
        static final int STOP = WORD + 17;

        final char[] bytes = new char[MOST_BYTES];
        int length;
        int fault;
        int faultPlace = NONE;
        // How many bytes the latest reading has: they stand in the row, though the tape is empty.
        int taken;
        private final int[] inside = new int[MOST_DEEP];
        private final StringBuilder builder = new StringBuilder();
        private int at;
        private int token;
        private int place;
        private int number;

        void copy(Tape from) {
            System.arraycopy(from.bytes, 0, bytes, 0, bytes.length);
            length = from.length;
            fault = from.fault;
            faultPlace = from.faultPlace;
        }

        void put(int four) {
            for (int shift = 24; shift >= 0; shift -= 8) {
                if (length < bytes.length) {
                    bytes[length] = (char) (four >> shift & 255);
                    length++;
                }
            }
        }

        /** The tape is empty from here on; what stood on it can be read until more comes. */
        void take() {
            taken = length;
            length = 0;
            fault = 0;
            faultPlace = NONE;
        }

        /** FAULT 1 goes before all others, at its first place. */
        private void stuck(int where) {
            if (fault != 1) {
                fault = 1;
                faultPlace = where;
            }
        }

        /** The first one counts: texts are read from the left on. */
        private void wrong(int what, int where) {
            if (fault == 0) {
                fault = what;
                faultPlace = where;
            }
        }

        /** All bytes as one row of letters (and digits). */
        boolean takeRow(int most, boolean digitsToo) {
            take();
            for (int i = 0; i < taken; i++) {
                char sign = bytes[i];
                if (!isLetter(sign) && !(digitsToo && isDigit(sign))) {
                    stuck(i);
                }
            }
            if (taken == 0) {
                stuck(0);
            }
            if (taken > most) {
                wrong(2, most);
            }
            return fault == 0;
        }

        /** The row that was taken. */
        String row() {
            builder.setLength(0);
            for (int i = 0; i < taken && i < MOST_NAME; i++) {
                builder.append(bytes[i]);
            }
            return builder.toString();
        }

        boolean takeLetter() {
            take();
            for (int i = 0; i < taken; i++) {
                if (!isLetter(bytes[i]) && bytes[i] != '.' && !isBlank(bytes[i])) {
                    stuck(i);
                }
            }
            return fault == 0;
        }

        boolean takePage(Page into) {
            take();
            at = 0;
            step();
            into.count = 0;
            int depth = readBox(into, 0);
            // Each round goes over a token, and there are no more of them than bytes.
            for (int round = 0; round < taken && depth > 0 && fault != 1; round++) {
                if (token == ')') {
                    step();
                    depth--;
                } else {
                    depth = readBox(into, depth);
                }
            }
            expect(NO_MORE);
            return fault == 0;
        }

        /** Reads a BOX up to its ( or its ; and answers in how many BOXES the next one stands. */
        private int readBox(Page into, int depth) {
            if (token < WORD || token >= WORD + KINDS) {
                stuck(place);
                return depth;
            }
            int box = NONE;
            if (into.isFull()) {
                wrong(3, place);
            } else if (depth >= MOST_DEEP) {
                wrong(4, place);
            } else if (fault == 0) {
                box = into.add(token - WORD, depth == 0 ? NONE : inside[depth - 1]);
            }
            step();
            readHead(into, box);
            if (token != '(') {
                expect(';');
                return depth;
            }
            step();
            if (depth < MOST_DEEP) {
                inside[depth] = box;
            }
            return depth + 1;
        }

        /** What is told of a BOX behind its KIND; the BOX is NONE when a FAULT was found already. */
        private void readHead(Page into, int box) {
            int colour = token == NUMBER ? readNumber(COLOURS - 1) : 0;
            int land = NONE;
            if (token == LAND) {
                step();
                land = readNumber(LANDS - 1);
            }
            int day = 0;
            if (token == DAY) {
                step();
                day = readNumber(DAYS - 1);
            }
            if (box != NONE) {
                into.tell(box, Page.COLOUR, colour);
                into.tell(box, Page.LAND, land);
                into.tell(box, Page.DAY, day);
            }
        }

        /** LINES into a row, FIELDS numbers each; how many there are, NONE: a FAULT. */
        int takeProgram(int[] into) {
            take();
            at = 0;
            step();
            int lines = 0;
            // Each round goes over a token, and there are no more of them than bytes.
            for (int round = 0; round < taken && token != NO_MORE && fault != 1; round++) {
                if (lines >= MOST_LINES) {
                    wrong(3, place);
                }
                readLine(into, lines);
                lines++;
            }
            return fault == 0 ? lines : NONE;
        }

        private void readLine(int[] into, int line) {
            int order = token;
            if (order < READ || order > STOP) {
                stuck(place);
                return;
            }
            int first = 0;
            int second = 0;
            int third = 0;
            step();
            switch (order) {
                case READ:
                    first = readKind();
                    second = readBehind(TO, REGISTERS - 1);
                    break;
                case MIX:
                    first = readNumber(REGISTERS - 1);
                    second = readBehind(TO, REGISTERS - 1);
                    break;
                case PUT:
                    first = readNumber(99);
                    second = readBehind(TO, REGISTERS - 1);
                    break;
                case SEND:
                    first = readNumber(REGISTERS - 1);
                    second = readBehind(TO, ADDRESSES - 1);
                    break;
                case IF:
                    first = readNumber(REGISTERS - 1);
                    second = readBehind('<', 99);
                    third = readBehind(GO, MOST_LINES);
                    break;
                case GO:
                    third = readNumber(MOST_LINES);
                    break;
                default:
                    // stop tells nothing more
                    break;
            }
            expect(';');
            int to = line * FIELDS;
            if (fault == 0 && to + FIELDS <= into.length) {
                into[to] = order;
                into[to + 1] = first;
                into[to + 2] = second;
                into[to + 3] = third;
            }
        }

        private int readKind() {
            int kind = token - WORD;
            if (kind < 0 || kind >= KINDS) {
                stuck(place);
                return 0;
            }
            step();
            return kind;
        }

        private int readBehind(int wanted, int most) {
            expect(wanted);
            return readNumber(most);
        }

        private int readNumber(int most) {
            int read = number;
            if (token != NUMBER) {
                stuck(place);
                return 0;
            }
            if (read > most) {
                wrong(2, place);
            }
            step();
            return read;
        }

        private void expect(int wanted) {
            if (token == wanted) {
                step();
            } else {
                stuck(place);
            }
        }

        /** Goes over a token to the next one. */
        private void step() {
            while (at < taken && isBlank(bytes[at])) {
                at++;
            }
            place = at;
            if (at >= taken) {
                token = NO_MORE;
                return;
            }
            char sign = bytes[at];
            if (isDigit(sign)) {
                stepDigits();
            } else if (isLetter(sign)) {
                stepLetters();
            } else {
                at++;
                boolean known = sign == '(' || sign == ')' || sign == ';' || sign == '<';
                token = known ? sign : NO_TOKEN;
            }
        }

        private void stepDigits() {
            number = 0;
            while (at < taken && isDigit(bytes[at])) {
                number = number * 10 + bytes[at] - '0';
                at++;
            }
            token = at - place <= 4 ? NUMBER : NO_TOKEN;
        }

        private void stepLetters() {
            while (at < taken && isLetter(bytes[at])) {
                at++;
            }
            token = NO_TOKEN;
            int word = 0;
            int same = 0;
            for (int i = 0; i < WORDS.length(); i++) {
                char sign = WORDS.charAt(i);
                if (sign == ' ') {
                    if (same == at - place) {
                        token = WORD + word;
                    }
                    word++;
                    same = 0;
                } else if (same != NONE && place + same < at && bytes[place + same] == sign) {
                    same++;
                } else {
                    same = NONE;
                }
            }
        }
    }

    /** A PAGE as a PERSON opens it: BOXES in their order, behind one that stands for the PAGE itself. */
    private static final class Opened {
        static final int MOST = MOST_BOXES + 1;
        // The KIND of a BOX that a FORGER took out: what is in it goes to that which it was in.
        static final int GONE = KINDS;
        private static final int WHOLE = KINDS;

        final int[] kind = new int[MOST];
        final int[] colour = new int[MOST];
        final int[] above = new int[MOST];
        // The first BOX that is no more within it.
        final int[] behind = new int[MOST];
        private final int[] number = new int[MOST_BOXES];
        int count;

        void open(Page page, int land, int day) {
            kind[0] = WHOLE;
            colour[0] = 0;
            above[0] = 0;
            count = 1;
            for (int box = 0; box < page.count; box++) {
                int within = page.told(box, Page.WITHIN);
                int to = within == NONE ? 0 : number[within];
                boolean gone = page.told(box, Page.KIND) == GONE;
                if (to != NONE && !gone) {
                    to = page.shows(box, land, day) ? add(page, box, to) : NONE;
                }
                number[box] = to;
            }
            span();
        }

        private int add(Page page, int box, int to) {
            kind[count] = page.told(box, Page.KIND);
            colour[count] = page.told(box, Page.COLOUR);
            above[count] = to;
            count++;
            return count - 1;
        }

        private void span() {
            for (int box = 0; box < count; box++) {
                behind[box] = box + 1;
            }
            for (int box = count - 1; box > 0; box--) {
                int to = above[box];
                behind[to] = Math.max(behind[to], behind[box]);
            }
        }

        int shown() {
            return count - 1;
        }

        int asked(int[] worth) {
            int together = 0;
            for (int box = 1; box < count; box++) {
                together += kind[box] < worth.length ? worth[kind[box]] : 0;
            }
            return together;
        }

        /** Is it not the last one in that which it is in? */
        boolean leads(int box) {
            return box == 0 || behind[above[box]] != behind[box];
        }
    }

    /** The room in which PAGES are opened and held against one another. */
    private static final class Room {
        static final int FAR_OFF = 999;
        private static final int PUT = 2;
        private static final int KIND_ANEW = 3;
        private static final int WIDE = Opened.MOST + 1;

        final Opened mine = new Opened();
        final Opened its = new Opened();
        // By a BOX of mine and one of its: FAR of the two with what is in them.
        private final int[] trees = new int[WIDE * WIDE];
        // Likewise: FAR of the two rows of trees from these on.
        private final int[] rows = new int[WIDE * WIDE];
        private final Told told;
        int like;
        int looks;

        Room(Told told) {
            this.told = told;
        }

        /**
         * FAR of the two opened PAGES, from the last BOX to the first one. A row of trees has to be
         * gone over anew only for a BOX that is not the last in its own: the others come with it.
         */
        int apart() {
            for (int x = mine.count - 1; x >= 0; x--) {
                for (int y = its.count - 1; y >= 0; y--) {
                    if (mine.leads(x) && its.leads(y)) {
                        compare(x, y);
                    }
                }
            }
            return trees[0];
        }

        private void compare(int x, int y) {
            int endX = mine.behind[x];
            int endY = its.behind[y];
            rows[endX * WIDE + endY] = 0;
            for (int i = endX - 1; i >= x; i--) {
                rows[i * WIDE + endY] = rows[(i + 1) * WIDE + endY] + PUT;
            }
            for (int j = endY - 1; j >= y; j--) {
                rows[endX * WIDE + j] = rows[endX * WIDE + j + 1] + PUT;
            }
            for (int i = endX - 1; i >= x; i--) {
                for (int j = endY - 1; j >= y; j--) {
                    int at = i * WIDE + j;
                    int least = Math.min(rows[at + WIDE], rows[at + 1]) + PUT;
                    if (mine.behind[i] == endX && its.behind[j] == endY) {
                        least = Math.min(least, rows[at + WIDE + 1] + swap(i, j));
                        trees[at] = least;
                    } else {
                        int rest = mine.behind[i] * WIDE + its.behind[j];
                        least = Math.min(least, trees[at] + rows[rest]);
                    }
                    rows[at] = least;
                }
            }
        }

        private int swap(int i, int j) {
            int price = mine.kind[i] == its.kind[j] ? 0 : KIND_ANEW;
            return mine.colour[i] == its.colour[j] ? price : price + 1;
        }

        /** LOOK of the PAGE that is opened as mine. */
        int lookAt(House house, int land, int day) {
            return closer(house, land, day, FAR_OFF);
        }

        /** LOOK, or a number told if LOOK is no less. */
        private int closer(House house, int land, int day, int than) {
            int least = than;
            for (int k = 0; k < house.owned; k++) {
                its.open(house.page[k], land, day);
                // So much is needed for their numbers of BOXES alone: no need to reckon on.
                if (PUT * Math.abs(mine.count - its.count) < least) {
                    least = Math.min(least, apart());
                }
            }
            return least;
        }

        /** LIKE of the PAGE that is opened as mine, and its LOOK at it. */
        void liken(int land, int day) {
            like = NONE;
            looks = FAR_OFF;
            for (int house = 0; house < told.houses; house++) {
                int look = closer(told.house[house], land, day, looks);
                if (like == NONE || look < looks) {
                    like = house;
                    looks = look;
                }
            }
        }

        /** Is a NAME not that of LIKE? */
        boolean isElsewhere(String name) {
            return like != NONE && (name == null || !name.equals(told.house[like].name));
        }

        /** SIGNS of the PAGE that is opened as mine, when it has been likened. */
        int signsAt(String name, int age) {
            int signs = 0;
            if (like != NONE && looks <= told.markA) {
                signs |= LOOKS_LIKE;
            }
            if (mine.asked(told.worth) >= told.markB) {
                signs |= ASKS_FOR;
            }
            if (isElsewhere(name) && age <= told.markC) {
                signs |= ELSEWHERE;
            }
            return signs;
        }
    }

    /** Tries all sets of a FORGER's CHANGES. */
    private static final class Forger {
        private final Page forged = new Page();
        private final Told told;
        private final Room room;
        private int waits;
        int price;
        int set;
        int says;

        Forger(Told told, Room room) {
            this.told = told;
            this.room = room;
        }

        /** Looks for PASS; it stands in the fields if there is one. */
        boolean passes(Came came, int day, int k, int w) {
            boolean found = false;
            for (int tried = 0; tried < 1 << came.changes; tried++) {
                int together = priceOf(came, tried);
                boolean better = !found || together < price
                        || together == price && Integer.bitCount(tried) < Integer.bitCount(set);
                if (!better || !aims(came, day, tried, k, w)) {
                    continue;
                }
                int say = said(room.signsAt(came.name, came.age(day) + waits));
                if (say != CRY) {
                    found = true;
                    price = together;
                    set = tried;
                    says = say;
                }
            }
            return found;
        }

        /**
         * The least MARK a by which no set passes: all that aim well must be cried at. A set whose
         * other signs are not both there passes by each a, the others by each a below their LOOK.
         */
        int leastMark(Came came, int day, int k, int w) {
            int least = 0;
            for (int tried = 0; tried < 1 << came.changes; tried++) {
                if (!aims(came, day, tried, k, w)) {
                    continue;
                }
                int others = room.signsAt(came.name, came.age(day) + waits) & ~LOOKS_LIKE;
                boolean cried = others == (ASKS_FOR | ELSEWHERE);
                least = Math.max(least, cried ? room.looks : MOST_A + 1);
            }
            return least;
        }

        /** Does the PAGE, with a set of CHANGES, still look and ask as the FORGER wants it? */
        private boolean aims(Came came, int day, int tried, int k, int w) {
            forge(came, tried);
            room.mine.open(forged, 0, day);
            if (room.mine.asked(told.worth) < w) {
                return false;
            }
            room.liken(0, day);
            return room.like != NONE && room.looks <= k;
        }

        private void forge(Came came, int tried) {
            forged.copy(came.text);
            waits = 0;
            for (int c = 0; c < came.changes; c++) {
                if ((tried >> c & 1) != 0) {
                    int at = c * FIELDS;
                    alter(came.change[at], came.change[at + 1], came.change[at + 2]);
                }
            }
        }

        private void alter(int sort, int box, int n) {
            if (sort == WAIT) {
                waits += n;
            } else if (sort == TAKE_OUT) {
                forged.tell(box, Page.KIND, Opened.GONE);
            } else {
                forged.tell(box, Page.COLOUR, n);
            }
        }

        private int priceOf(Came came, int tried) {
            int together = 0;
            for (int c = 0; c < came.changes; c++) {
                if ((tried >> c & 1) != 0) {
                    together += came.change[c * FIELDS + 3];
                }
            }
            return together;
        }
    }

    /** Looks for BEST MARKS. */
    private static final class Best {
        private final int[] looks = new int[MOST_CASES];
        private final int[] asked = new int[MOST_CASES];
        private final int[] age = new int[MOST_CASES];
        private final boolean[] pretends = new boolean[MOST_CASES];
        // The MARKS that the least row of its like can have: 0, or one by which a CASE more or
        // less is cried at than by the MARK below.
        private final boolean[] turnsA = new boolean[MOST_A + 1];
        private final boolean[] turnsB = new boolean[MOST_B + 1];
        private final boolean[] turnsC = new boolean[MOST_C + 1];
        private int cases;
        private boolean any;
        private int bestA;
        private int bestB;
        private int bestC;
        private int missed;
        private int honest;

        void clear() {
            cases = 0;
            clearTurns(turnsA);
            clearTurns(turnsB);
            clearTurns(turnsC);
        }

        private void clearTurns(boolean[] turns) {
            for (int k = 0; k < turns.length; k++) {
                turns[k] = k == 0;
            }
        }

        /** A CASE that can't be cried at has a LOOK above all MARKS. */
        void add(int look, int ask, int days, boolean isPretending) {
            if (cases >= MOST_CASES) {
                return;
            }
            looks[cases] = look;
            asked[cases] = ask;
            age[cases] = days;
            pretends[cases] = isPretending;
            cases++;
            turn(turnsA, look);
            turn(turnsB, ask + 1);
            turn(turnsC, days);
        }

        private void turn(boolean[] turns, int mark) {
            if (mark >= 0 && mark < turns.length) {
                turns[mark] = true;
            }
        }

        boolean find(int h) {
            any = false;
            for (int a = 0; a <= MOST_A; a++) {
                for (int b = 0; turnsA[a] && b <= MOST_B; b++) {
                    for (int c = 0; turnsB[b] && c <= MOST_C; c++) {
                        if (turnsC[c]) {
                            weigh(h, a, b, c);
                        }
                    }
                }
            }
            return any;
        }

        private void weigh(int h, int a, int b, int c) {
            int misses = 0;
            int cries = 0;
            for (int k = 0; k < cases; k++) {
                boolean cried = looks[k] <= a && asked[k] >= b && age[k] <= c;
                if (pretends[k] && !cried) {
                    misses++;
                }
                if (!pretends[k] && cried) {
                    cries++;
                }
            }
            // Rows come from the least one on: an equal one is no better.
            boolean better = !any || misses < missed || misses == missed && cries < honest;
            if (cries <= h && better) {
                any = true;
                bestA = a;
                bestB = b;
                bestC = c;
                missed = misses;
                honest = cries;
            }
        }

        int found(int what) {
            switch (what) {
                case 0: return bestA;
                case 1: return bestB;
                case 2: return bestC;
                case 3: return missed;
                default: return honest;
            }
        }
    }

    /** Does the LINES of a PROGRAM. */
    private static final class Runner {
        private final int[] numbers = new int[REGISTERS];
        private final int[] traces = new int[REGISTERS];
        final int[] got = new int[ADDRESSES];
        int steps;

        void run(Came page, int x) {
            for (int r = 0; r < REGISTERS; r++) {
                numbers[r] = 0;
                traces[r] = 0;
            }
            for (int address = 0; address < ADDRESSES; address++) {
                got[address] = 0;
            }
            steps = 0;
            int line = 0;
            while (steps < MOST_STEPS && line >= 0 && line < page.lines) {
                steps++;
                line = done(page.line, line, x);
            }
        }

        /** Does a LINE and answers the next one; its numbers were looked at when it was read. */
        private int done(int[] lines, int line, int x) {
            int at = line * FIELDS;
            int first = lines[at + 1];
            int second = lines[at + 2];
            switch (lines[at]) {
                case Tape.READ:
                    numbers[second] = (x * (first + 1) + 7) % 100;
                    traces[second] = 1 << first;
                    break;
                case Tape.MIX:
                    numbers[second] = (numbers[second] + numbers[first]) % 100;
                    traces[second] |= traces[first];
                    break;
                case Tape.PUT:
                    numbers[second] = first;
                    traces[second] = 0;
                    break;
                case Tape.SEND:
                    got[second] |= traces[first];
                    break;
                case Tape.IF:
                    return numbers[first] < second ? lines[at + 3] : line + 1;
                case Tape.GO:
                    return lines[at + 3];
                default:
                    return NONE;
            }
            return line + 1;
        }
    }
}
