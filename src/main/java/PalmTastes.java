import java.util.Arrays;

/** A street of walls written on in flavours, and the readers whose palms get used to what they taste. */
public final class PalmTastes {
    public static final int NONE = -1000000, BAD = -1000001, STATE = -1000002, FULL = -1000003;

    // An answer that tells a finding, or the place of a fault, is this less its number.
    private static final int FINDINGS = -1000010, FAULTS = -1000100;

    private static final int NULL_ROW = 1, NO_PLACE = 2, NO_SUCH_KIND = 3, FEWER_THAN_NONE = 4, TWO_LANES = 5;

    private static final int ROWS = 8, LANES = 3, MOST_ITEMS = 40;

    private static final int MOST_BYTES = 400, FEED_BYTES = 8;

    private static final int MOST_WALLS = 8, MOST_READERS = 5, FLAVOURS = 5;

    private static final int SWEET = 0, BITTER = 1, SOUR = 2, NOTHING = -1;

    private static final int STRONGEST = 30, MOST_USED = 9, MOST_RAIN = 5, MOST_DAYS = 9999;

    // What a street keeps of a palm: how used it is to each flavour, and its aftertaste behind these.
    private static final int AFTERTASTE = FLAVOURS, PALM = FLAVOURS + 1;

    private static final int MOST_ACTS = 24, IMAGES = 2, MOST_WALKS = 20, MOST_DAYS_AGO = 20, MOST_DAYS_TOLD = 99;

    private static final int KINDS = 6, PLAIN = 1, CHILD = 2, SCHOLAR = 3, WAX = 4, FEVER = 5;

    // For each kind the nearest kind that it is, too; a reader (kind 0) is no other.
    private static final int[] NEAREST = {-1, 0, 1, 1, 0, 4};

    private static final int SIZE = 0, MARK = 1, MOST_TRACED = 16, DEEPEST = 16;

    // For each kind the body that is told for it; 0: none is, the one of the nearest kind begins.
    private static final int[] SIZE_BODIES = {10, 11, 12, 0, 13, 14}, MARK_BODIES = {20, 21, 24, 22, 23, 0};

    private final Row[] rows = new Row[ROWS];
    private final Tape tape = new Tape();
    private final Street street = new Street();
    private final Acts acts = new Acts();
    private final Street[] images = new Street[IMAGES];
    private final Asks asks = new Asks();
    private int latestFault = 0;
    private int latestFinding = 0;

    // Filled anew by each call that uses them, by wall: so no call makes an array.
    private final Palm palm = new Palm();
    private final int[] told = new int[MOST_WALLS];
    private final int[] readFirst = new int[MOST_WALLS];
    private final int[] spiceThere = new int[MOST_WALLS];
    private final int[] spiceBack = new int[MOST_WALLS];

    public PalmTastes() {
        for (int i = 0; i < ROWS; i++) rows[i] = new Row();
        for (int i = 0; i < IMAGES; i++) images[i] = new Street();
    }

    // ---- rows

    public int row(int row, int lane, int n) {
        if (!isRow(row) || lane < 0 || lane >= LANES || n > MOST_ITEMS) return BAD;
        if (n < 0) return finding(FEWER_THAN_NONE);
        rows[row].begin(lane, n);
        return noFinding(n);
    }

    public int set(int row, int i, int v) {
        if (!isRow(row)) return BAD;
        Row into = rows[row];
        if (!into.there) return finding(NULL_ROW);
        if (!into.hasPlaces(i, 1)) return finding(NO_PLACE);
        into.items[i] = into.inLane(v);
        return noFinding(into.items[i]);
    }

    public int copy(int a, int i, int b, int j, int n) {
        if (!isRow(a) || !isRow(b)) return BAD;
        Row from = rows[a];
        Row into = rows[b];
        if (!from.there || !into.there) return finding(NULL_ROW);
        if (from.lane != into.lane) return finding(TWO_LANES);
        if (!from.hasPlaces(i, n) || !into.hasPlaces(j, n)) return finding(NO_PLACE);
        System.arraycopy(from.items, i, into.items, j, n);
        return noFinding(n);
    }

    public int drop(int row) {
        if (!isRow(row)) return BAD;
        Row gone = rows[row];
        if (!gone.there) return finding(NULL_ROW);
        gone.there = false;
        return noFinding(gone.size);
    }

    private static boolean isRow(int row) {
        return row >= 0 && row < ROWS;
    }

    private int finding(int number) {
        latestFinding = number;
        return FINDINGS - number;
    }

    private int noFinding(int answer) {
        latestFinding = 0;
        return answer;
    }

    // ---- streets, acts

    public int feed(long w, int n) {
        if (n < 1 || n > FEED_BYTES) return BAD;
        if (tape.length + n > MOST_BYTES) return FULL;
        for (int i = n - 1; i >= 0; i--) tape.add((int) (w >>> (8 * i)) & 255);
        return tape.length;
    }

    public int street() {
        boolean right = tape.isStreet();
        tape.length = 0;
        if (!right) {
            latestFault = tape.fault;
            return FAULTS - tape.faultPlace;
        }
        street.become(tape.draft);
        acts.forgetAll();
        return street.walls;
    }

    public int fault() {
        return latestFault;
    }

    public int paint(int wall, int flavour, int n) {
        if (!street.hasFlavour(wall, flavour) || n < 1 || n > STRONGEST) return BAD;
        acts.keep(street);
        int stronger = Math.min(STRONGEST, street.strength(wall, flavour) + n);
        street.strong[wall * FLAVOURS + flavour] = stronger;
        return stronger;
    }

    public int day(int rain) {
        if (street.walls == 0) return STATE;
        if (rain < 0 || rain > MOST_RAIN) return BAD;
        if (street.days >= MOST_DAYS) return FULL;
        acts.keep(street);
        return street.fadeByDay(rain);
    }

    public int walk(int reader, int from, int to) {
        if (!canWalk(reader, from, to)) return BAD;
        acts.keep(street);
        palm.take(street, reader);
        int tasted = 0;
        for (int k = 0; k < wallsOnWay(from, to); k++) {
            if (palm.tasteOn(street, wallOnWay(from, to, k)) != NOTHING) tasted++;
        }
        palm.leave(street, reader);
        return tasted;
    }

    public int rest(int reader) {
        if (!street.hasReader(reader)) return BAD;
        acts.keep(street);
        int used = street.usedInAll(reader);
        palm.forgetAll();
        palm.leave(street, reader);
        return used;
    }

    public int undo() {
        if (acts.kept == 0) return STATE;
        acts.undoLatest(street);
        return acts.kept;
    }

    public int wall(int wall, int flavour) {
        if (!street.hasFlavour(wall, flavour)) return BAD;
        return street.strength(wall, flavour);
    }

    public int reader(int reader, int what) {
        if (!street.hasReader(reader) || what < 0 || what > AFTERTASTE) return BAD;
        return street.palms[reader * PALM + what];
    }

    public int felt(int reader, int wall, int flavour) {
        if (!street.hasReader(reader) || !street.hasFlavour(wall, flavour)) return BAD;
        palm.take(street, reader);
        return palm.feels(street.strength(wall, flavour), flavour);
    }

    private static boolean isFlavour(int flavour) {
        return flavour >= 0 && flavour < FLAVOURS;
    }

    private boolean canWalk(int reader, int from, int to) {
        return street.hasReader(reader) && street.hasWall(from) && street.hasWall(to);
    }

    private static int wallsOnWay(int from, int to) {
        return Math.abs(to - from) + 1;
    }

    private static int wallOnWay(int from, int to, int k) {
        return from <= to ? from + k : from - k;
    }

    // ---- foretold

    public int read(int reader, int from, int to, int k) {
        if (!canWalk(reader, from, to) || k < 0) return BAD;
        if (k >= wallsOnWay(from, to)) return NONE;
        palm.take(street, reader);
        int reads = NOTHING;
        for (int i = 0; i <= k; i++) reads = palm.readOn(street, wallOnWay(from, to, i));
        return reads;
    }

    public int wrong(int reader, int from, int to, int row) {
        if (!canWalk(reader, from, to) || !isRow(row)) return BAD;
        int refusal = hearMessage(row, from, to, NOTHING);
        if (refusal != 0) return refusal;
        palm.take(street, reader);
        for (int k = 0; k < wallsOnWay(from, to); k++) {
            int wall = wallOnWay(from, to, k);
            if (palm.readOn(street, wall) != told[wall]) return k;
        }
        return NONE;
    }

    public int often(int reader, int from, int to) {
        if (!canWalk(reader, from, to)) return BAD;
        palm.take(street, reader);
        for (int k = 0; k < wallsOnWay(from, to); k++) {
            int wall = wallOnWay(from, to, k);
            readFirst[wall] = palm.readOn(street, wall);
        }
        for (int walks = 2; walks <= MOST_WALKS; walks++) {
            if (readsOtherwise(from, to)) return walks;
        }
        return NONE;
    }

    public int spice(int reader, int from, int to, int row, int k) {
        if (!canWalk(reader, from, to) || !isRow(row) || k < -1) return BAD;
        int refusal = hearMessage(row, from, to, 0);
        if (refusal != 0) return refusal;
        if (k >= wallsOnWay(from, to) || !findSpice(reader, from, to, spiceThere)) return NONE;
        if (k >= 0) return spiceThere[wallOnWay(from, to, k)];
        int inAll = 0;
        for (int i = 0; i < wallsOnWay(from, to); i++) inAll += spiceThere[wallOnWay(from, to, i)];
        return inAll;
    }

    public int both(int reader, int from, int to, int row) {
        if (!canWalk(reader, from, to) || !isRow(row)) return BAD;
        int refusal = hearMessage(row, from, to, 0);
        if (refusal != 0) return refusal;
        if (!findSpice(reader, from, to, spiceThere) || !findSpice(reader, to, from, spiceBack)) return NONE;
        int inAll = 0;
        for (int i = 0; i < wallsOnWay(from, to); i++) {
            int wall = wallOnWay(from, to, i);
            inAll += Math.max(spiceThere[wall], spiceBack[wall]);
        }
        return inAll;
    }

    public int order(int reader, int strong, int k) {
        if (!street.hasReader(reader) || strong < 1 || strong > STRONGEST || !isFlavour(k)) return BAD;
        palm.take(street, reader);
        int kth = NONE;
        int tasted = 0;
        for (int place = 0; place < FLAVOURS; place++) {
            // To taste the first that he feels spoils no later one: whichever he tastes, he is less used
            // to each that is left by the same, and none that is left becomes his aftertaste.
            int next = firstFelt(strong, tasted);
            if (next == NOTHING) return NONE;
            if (place == k) kth = next;
            tasted |= 1 << next;
            palm.getsUsedTo(next);
        }
        return kth;
    }

    public int written(int wall, int flavour, int days, int what) {
        if (!street.hasFlavour(wall, flavour) || days < 0 || days > MOST_DAYS_AGO || what < 0 || what > 1) return BAD;
        int now = street.strength(wall, flavour);
        int then = now + days * fadesByDay(flavour);
        // What is gone by now may have been gone at any time since.
        if (now == 0) return what == 0 ? 0 : Math.min(STRONGEST, then);
        return then > STRONGEST ? NONE : then;
    }

    public int forged(int row, int i) {
        if (street.walls == 0) return STATE;
        if (!isRow(row)) return BAD;
        Row ages = rows[row];
        if (!ages.there) return finding(NULL_ROW);
        if (!ages.hasPlaces(i, street.walls)) return finding(NO_PLACE);
        int walls = 0;
        for (int wall = 0; wall < street.walls; wall++) {
            int days = ages.items[i + wall];
            if (days < 0 || days > MOST_DAYS_TOLD) return BAD;
            int strongestYet = Math.max(0, STRONGEST - days * fadesByDay(SOUR));
            if (street.strength(wall, SOUR) > strongestYet) walls |= 1 << wall;
        }
        return noFinding(walls);
    }

    public int image(int k) {
        if (k < 0 || k >= IMAGES) return BAD;
        if (street.walls == 0) return STATE;
        images[k].become(street);
        return 1;
    }

    public int restore(int k) {
        if (k < 0 || k >= IMAGES) return BAD;
        if (images[k].walls == 0) return STATE;
        street.become(images[k]);
        acts.forgetAll();
        return 1;
    }

    /** What a row tells for the walls of a walk comes into told, by wall: 0, or why that is refused. */
    private int hearMessage(int row, int from, int to, int leastItem) {
        Row message = rows[row];
        if (!message.there) return finding(NULL_ROW);
        int walls = wallsOnWay(from, to);
        if (!message.hasPlaces(0, walls)) return finding(NO_PLACE);
        for (int k = 0; k < walls; k++) {
            int item = message.items[k];
            if (item < leastItem || item >= FLAVOURS) return BAD;
            told[wallOnWay(from, to, k)] = item;
        }
        return noFinding(0);
    }

    /** One more walk of the palm: whether a wall of it is read other than on the first one. */
    private boolean readsOtherwise(int from, int to) {
        boolean otherwise = false;
        for (int k = 0; k < wallsOnWay(from, to); k++) {
            int wall = wallOnWay(from, to, k);
            if (palm.readOn(street, wall) != readFirst[wall]) otherwise = true;
        }
        return otherwise;
    }

    /** The spice by which a walk is read as told, by wall; false: there is none. */
    private boolean findSpice(int reader, int from, int to, int[] spices) {
        palm.take(street, reader);
        for (int k = 0; k < wallsOnWay(from, to); k++) {
            int wall = wallOnWay(from, to, k);
            int flavour = palm.swapped(told[wall]);
            spices[wall] = palm.leastSpice(street, wall, flavour);
            if (spices[wall] < 0) return false;
            palm.getsUsedTo(flavour);
        }
        return true;
    }

    private int firstFelt(int strong, int tasted) {
        for (int flavour = 0; flavour < FLAVOURS; flavour++) {
            if ((tasted >> flavour & 1) == 0 && palm.feels(strong, flavour) > 0) return flavour;
        }
        return NOTHING;
    }

    private static int fadesByDay(int flavour) {
        return flavour == SOUR ? 3 : 1;
    }

    // ---- asked

    public int kind(int reader) {
        if (!street.hasReader(reader)) return BAD;
        return street.kinds[reader];
    }

    public int as(int reader, int kind) {
        if (!street.hasReader(reader) || kind < 0 || kind >= KINDS) return BAD;
        if (!isOfKind(street.kinds[reader], kind)) return finding(NO_SUCH_KIND);
        return noFinding(reader);
    }

    public int ask(int reader, int what) {
        if (!street.hasReader(reader) || what < SIZE || what > MARK) return BAD;
        return asks.answer(street, reader, what);
    }

    public int trace(int i) {
        return i >= 0 && i < asks.traced ? asks.bodies[i] : NONE;
    }

    public int count(int what) {
        switch (what) {
            case 0: return rowsThere();
            case 1: return street.walls;
            case 2: return street.readers;
            case 3: return street.days;
            case 4: return acts.kept;
            case 5: return street.strengthInAll();
            case 6: return tape.length;
            default: return BAD;
        }
    }

    public int status() {
        return latestFinding;
    }

    private static boolean isOfKind(int kind, int wanted) {
        int is = kind;
        for (int i = 0; i < KINDS && is >= 0 && is < KINDS; i++) {
            if (is == wanted) return true;
            is = NEAREST[is];
        }
        return false;
    }

    private int rowsThere() {
        int there = 0;
        for (int i = 0; i < ROWS; i++) {
            if (rows[i].there) there++;
        }
        return there;
    }

    /** A row is never unmade: one that is missing waits to be used again. */
    private static final class Row {
        boolean there = false;
        int lane = 0;
        int size = 0;
        final int[] items = new int[MOST_ITEMS];

        void begin(int newLane, int newSize) {
            there = true;
            lane = newLane;
            size = newSize;
            Arrays.fill(items, 0);
        }

        boolean hasPlaces(int from, int n) {
            return from >= 0 && n >= 0 && n <= size && from <= size - n;
        }

        int inLane(int v) {
            switch (lane) {
                case 0: return (byte) v;
                case 1: return (short) v;
                default: return v;
            }
        }
    }

    /** The tape, read token by token as a street; as a draft, so that a fault leaves the street as it was. */
    private static final class Tape {
        private static final int END = 0, NAME = 1, NUMBER = 2, SIGN = 3, NO_TOKEN = 4;
        private static final int OUT_OF_PLACE = 1, NOT_AS_TOLD = 2, NO_ROOM = 3;
        private static final int MOST_FIGURES = 3;

        int length = 0;
        final Street draft = new Street();
        int fault = 0;
        int faultPlace = 0;
        private final int[] bytes = new int[MOST_BYTES];
        private int token = END;
        private int begins = 0;
        private int ends = 0;
        private int value = 0;

        void add(int next) {
            if (length < MOST_BYTES) bytes[length++] = next;
        }

        /** Whether the tape is a street, which is in the draft then; else the fault is told. */
        boolean isStreet() {
            draft.clear();
            ends = 0;
            toNextToken();
            if (!isWord("wall")) return faulty(OUT_OF_PLACE);
            for (int i = 0; i < MOST_BYTES && isWord("wall"); i++) {
                if (!tellWall()) return false;
            }
            for (int i = 0; i < MOST_BYTES && isWord("reader"); i++) {
                if (!tellReader()) return false;
            }
            return token == END || faulty(OUT_OF_PLACE);
        }

        private boolean tellWall() {
            if (draft.walls >= MOST_WALLS) return faulty(NO_ROOM);
            toNextToken();
            if (!tellNumbers(draft.strong, draft.walls * FLAVOURS, STRONGEST)) return false;
            draft.walls++;
            return tellSign();
        }

        private boolean tellReader() {
            if (draft.readers >= MOST_READERS) return faulty(NO_ROOM);
            toNextToken();
            int kind = kindOfSort();
            if (kind < 0) return faulty(OUT_OF_PLACE);
            toNextToken();
            int palm = draft.readers * PALM;
            if (!tellNumbers(draft.palms, palm, MOST_USED)) return false;
            draft.palms[palm + AFTERTASTE] = NOTHING;
            draft.kinds[draft.readers] = kind;
            draft.readers++;
            return tellSign();
        }

        private boolean tellNumbers(int[] into, int from, int most) {
            for (int i = from; i < from + FLAVOURS && i < into.length; i++) {
                if (token != NUMBER) return faulty(OUT_OF_PLACE);
                if (value > most) return faulty(NOT_AS_TOLD);
                into[i] = value;
                toNextToken();
            }
            return true;
        }

        private boolean tellSign() {
            if (token != SIGN) return faulty(OUT_OF_PLACE);
            toNextToken();
            return true;
        }

        private int kindOfSort() {
            if (isWord("plain")) return PLAIN;
            if (isWord("child")) return CHILD;
            if (isWord("wax")) return WAX;
            if (isWord("fever")) return FEVER;
            if (isWord("scholar")) return SCHOLAR;
            return -1;
        }

        /** The byte at a place; -1 beyond the end. */
        private int at(int place) {
            return place >= 0 && place < length ? bytes[place] : -1;
        }

        private boolean faulty(int number) {
            fault = number;
            faultPlace = begins;
            return false;
        }

        private boolean isWord(String word) {
            if (token != NAME || word.length() != ends - begins) return false;
            for (int i = 0; i < word.length(); i++) {
                if (at(begins + i) != word.charAt(i)) return false;
            }
            return true;
        }

        private void toNextToken() {
            begins = ends;
            while (begins < length && isBlank(at(begins))) begins++;
            ends = begins;
            int first = at(begins);
            if (first < 0) {
                token = END;
            } else if (isLetter(first)) {
                while (ends < length && isLetter(at(ends))) ends++;
                token = NAME;
            } else if (isFigure(first)) {
                toEndOfNumber();
            } else {
                ends++;
                token = first == ';' ? SIGN : NO_TOKEN;
            }
        }

        private void toEndOfNumber() {
            value = 0;
            while (ends < length && isFigure(at(ends))) {
                value = value * 10 + at(ends) - '0';
                ends++;
            }
            // Of a run too long the value may have wrapped around: none asks for it.
            token = ends - begins <= MOST_FIGURES ? NUMBER : NO_TOKEN;
        }

        private static boolean isBlank(int value) {
            return value == 32 || value == 10;
        }

        private static boolean isLetter(int value) {
            return value >= 'a' && value <= 'z';
        }

        private static boolean isFigure(int value) {
            return value >= '0' && value <= '9';
        }
    }

    /** Walls and readers as they are on a day; without a wall it is no street. */
    private static final class Street {
        int walls = 0;
        int readers = 0;
        int days = 0;
        final int[] strong = new int[MOST_WALLS * FLAVOURS];
        final int[] kinds = new int[MOST_READERS];
        final int[] palms = new int[MOST_READERS * PALM];

        /** What stays in the arrays beyond the counts is read by nobody. */
        void clear() {
            walls = 0;
            readers = 0;
            days = 0;
        }

        void become(Street other) {
            walls = other.walls;
            readers = other.readers;
            days = other.days;
            System.arraycopy(other.strong, 0, strong, 0, MOST_WALLS * FLAVOURS);
            System.arraycopy(other.kinds, 0, kinds, 0, MOST_READERS);
            System.arraycopy(other.palms, 0, palms, 0, MOST_READERS * PALM);
        }

        boolean hasWall(int wall) {
            return wall >= 0 && wall < walls;
        }

        boolean hasReader(int reader) {
            return reader >= 0 && reader < readers;
        }

        boolean hasFlavour(int wall, int flavour) {
            return hasWall(wall) && isFlavour(flavour);
        }

        int strength(int wall, int flavour) {
            return strong[wall * FLAVOURS + flavour];
        }

        int strengthInAll() {
            int inAll = 0;
            for (int i = 0; i < walls * FLAVOURS; i++) inAll += strong[i];
            return inAll;
        }

        int usedInAll(int reader) {
            int inAll = 0;
            for (int flavour = 0; flavour < FLAVOURS; flavour++) inAll += palms[reader * PALM + flavour];
            return inAll;
        }

        /** A day passes: how many flavours are gone by it. */
        int fadeByDay(int rain) {
            days++;
            int gone = 0;
            for (int i = 0; i < walls * FLAVOURS; i++) {
                int before = strong[i];
                strong[i] = Math.max(0, before - fadesByDay(i % FLAVOURS) - rain);
                if (before > 0 && strong[i] == 0) gone++;
            }
            return gone;
        }
    }

    /** The palm of one reader, taken from a street to taste with: only leave() changes the street. */
    private static final class Palm {
        private int kind = 0;
        private int aftertaste = NOTHING;
        private final int[] used = new int[FLAVOURS];

        void take(Street street, int reader) {
            kind = street.kinds[reader];
            aftertaste = street.palms[reader * PALM + AFTERTASTE];
            System.arraycopy(street.palms, reader * PALM, used, 0, FLAVOURS);
        }

        void leave(Street street, int reader) {
            street.palms[reader * PALM + AFTERTASTE] = aftertaste;
            System.arraycopy(used, 0, street.palms, reader * PALM, FLAVOURS);
        }

        void forgetAll() {
            aftertaste = NOTHING;
            Arrays.fill(used, 0);
        }

        int feels(int strong, int flavour) {
            int felt = Math.max(0, strong - used[flavour] - (flavour == aftertaste ? 2 : 0));
            if (kind == CHILD) return 2 * felt;
            // A fever's palm is bare, though he is a wax one by his kind.
            if (kind == WAX) return Math.max(0, felt - 4);
            return felt;
        }

        /** What he tastes on a wall; he is used to it then. */
        int tasteOn(Street street, int wall) {
            int tasted = NOTHING;
            int most = 0;
            for (int flavour = 0; flavour < FLAVOURS; flavour++) {
                int felt = feels(street.strength(wall, flavour), flavour);
                if (felt > most) {
                    most = felt;
                    tasted = flavour;
                }
            }
            getsUsedTo(tasted);
            return tasted;
        }

        int readOn(Street street, int wall) {
            return swapped(tasteOn(street, wall));
        }

        /** What is read of a flavour that is tasted; also what is to be tasted of one that is to be read. */
        int swapped(int flavour) {
            if (kind != FEVER) return flavour;
            if (flavour == SWEET) return BITTER;
            return flavour == BITTER ? SWEET : flavour;
        }

        void getsUsedTo(int tasted) {
            aftertaste = tasted;
            if (kind == SCHOLAR) return;
            for (int flavour = 0; flavour < FLAVOURS; flavour++) {
                if (flavour == tasted) used[flavour] = Math.min(MOST_USED, used[flavour] + 1);
                else used[flavour] = Math.max(0, used[flavour] - 1);
            }
        }

        /** The least by which a flavour has to be stronger on a wall to be what he tastes; -1: it cannot be. */
        int leastSpice(Street street, int wall, int flavour) {
            int needed = 1;
            for (int other = 0; other < FLAVOURS; other++) {
                if (other == flavour) continue;
                int felt = feels(street.strength(wall, other), other);
                // Of flavours felt alike the first is tasted.
                needed = Math.max(needed, other < flavour ? felt + 1 : felt);
            }
            int now = street.strength(wall, flavour);
            for (int strong = now; strong <= STRONGEST; strong++) {
                if (feels(strong, flavour) >= needed) return strong - now;
            }
            return -1;
        }
    }

    /** The street as it was ahead of each of the latest acts, in a ring: the oldest is written over. */
    private static final class Acts {
        int kept = 0;
        private int next = 0;
        private final Street[] before = new Street[MOST_ACTS];

        Acts() {
            for (int i = 0; i < MOST_ACTS; i++) before[i] = new Street();
        }

        void keep(Street street) {
            before[next].become(street);
            next = next + 1 < MOST_ACTS ? next + 1 : 0;
            if (kept < MOST_ACTS) kept++;
        }

        void undoLatest(Street street) {
            next = next > 0 ? next - 1 : MOST_ACTS - 1;
            street.become(before[next]);
            kept--;
        }

        void forgetAll() {
            kept = 0;
        }
    }

    /** The bodies by which readers are asked, and the trace that they leave. */
    private static final class Asks {
        int traced = 0;
        final int[] bodies = new int[MOST_TRACED];

        int answer(Street street, int reader, int what) {
            traced = 0;
            return askAnew(street, reader, what, 0);
        }

        private int askAnew(Street street, int reader, int what, int depth) {
            return gives(street, reader, bodyFor(what, street.kinds[reader]), depth);
        }

        private int bodyFor(int what, int kind) {
            int body = 0;
            int is = kind;
            for (int i = 0; i < KINDS && is >= 0 && is < KINDS && body == 0; i++) {
                body = what == SIZE ? SIZE_BODIES[is] : MARK_BODIES[is];
                is = NEAREST[is];
            }
            return body;
        }

        private int gives(Street street, int reader, int body, int depth) {
            if (depth > DEEPEST) return 0;
            leave(body);
            int deeper = depth + 1;
            switch (body) {
                case 10: return street.usedInAll(reader);
                case 11: return gives(street, reader, 10, deeper) + askAnew(street, reader, MARK, deeper);
                case 12: return -gives(street, reader, 11, deeper);
                case 13: return gives(street, reader, 10, deeper) - 100;
                case 14: return 2 * gives(street, reader, 13, deeper);
                case 20: return reader;
                case 21: return gives(street, reader, 20, deeper) + street.palms[reader * PALM + AFTERTASTE];
                case 22: return gives(street, reader, 21, deeper) - 1000;
                case 23: return gives(street, reader, 20, deeper) - askAnew(street, reader, SIZE, deeper);
                case 24: return 2 * gives(street, reader, 21, deeper);
                default: return 0;
            }
        }

        private void leave(int body) {
            if (traced < MOST_TRACED) bodies[traced++] = body;
        }
    }
}
