/**
 * Each refusal and finding of each call, in the order of the promises: at the bound, one beyond it on either side, which
 * comes first where several fit, and that all is left as it was ("What is refused, or found, changes nothing but status()").
 */
public final class RefusedTest {
    private static final int MIN = Integer.MIN_VALUE, MAX = Integer.MAX_VALUE;
    private static final int[] NO_ROW = {-1, 8, MIN, MAX}, NO_READER = {-1, 2, MIN, MAX}, NO_WALL = {-1, 3, MIN, MAX};
    private static final int[] NO_FLAVOUR = {-1, 5, MIN, MAX};

    private static final Due due = new Due();
    private static final Twins on = new Twins(due, "", RefusedTest::standing);
    private static final Twins bare = new Twins(due, "no street: ", RefusedTest::noStreet);

    public static void main(String[] args) {
        row();
        set();
        copy();
        drop();
        feed();
        street();
        paint();
        day();
        walk();
        rest();
        undo();
        palmAndWalls();
        read();
        wrong();
        often();
        spice();
        both();
        order();
        written();
        forged();
        image();
        restore();
        kindAndAs();
        ask();
        traceCountStatus();
        noReaders();
        foretoldChangesNothing();
        askedChangesNothing();
        due.end("RefusedTest");
    }

    /** Rows 0 to 6 (row 2 has no items, rows 3 to 6 one item that some call does not take), row 7 is missing. */
    private static void rows(PalmTastes x) {
        Due.row(x, 0, 0, 1, 2);
        x.row(1, 1, 2);
        x.set(1, 0, 3);
        x.set(1, 1, 4);
        x.row(2, 2, 0);
        Due.row(x, 3, 0, 0, 5);
        Due.row(x, 4, -1, 0, 0);
        Due.row(x, 5, 0, 0, 100);
        Due.row(x, 6, 0, 0, -2);
    }

    /** 3 walls, 2 readers, a fault behind it, an image 0, 3 acts, a trace, a tape; the latest finding is KIND. */
    static void standing(PalmTastes x) {
        Due.street(x, "wall 31");
        Due.street(x, "wall9 8 30 0 1;wall0 8 1 30 2;wall0 0 0 0 0;reader plain1 0 2 0 9;reader fever0 3 0 0 0;");
        x.image(0);
        x.paint(1, 0, 3);
        x.day(1);
        x.walk(0, 0, 2);
        x.ask(1, 1);
        rows(x);
        Due.feed(x, "wall 1 2 3 4 5;");
        x.as(1, 1);
    }

    /** The same rows, a fault and a tape, but no street as yet; the latest finding is SIZE. */
    private static void noStreet(PalmTastes x) {
        Due.street(x, "wall 31");
        rows(x);
        Due.feed(x, "wall 1 2 3 4 5;");
        x.row(0, 0, -1);
    }

    private static void row() {
        for (int row : NO_ROW) on.leavesAll("row(" + row + ", 0, 1)", x -> x.row(row, 0, 1), Due.BAD);
        for (int lane : new int[] {-1, 3, MIN, MAX}) on.leavesAll("row(0, " + lane + ", 1)", x -> x.row(0, lane, 1), Due.BAD);
        for (int n : new int[] {41, MAX}) on.leavesAll("row(0, 0, " + n + ")", x -> x.row(0, 0, n), Due.BAD);
        for (int n : new int[] {-1, MIN}) {
            on.leavesAllButStatus("row(0, 0, " + n + ")", x -> x.row(0, 0, n), Due.SIZE);
            on.leavesAllButStatus("row(7, 2, " + n + ")", x -> x.row(7, 2, n), Due.SIZE);
            on.leavesAll("BAD ahead of SIZE: row(8, 0, " + n + ")", x -> x.row(8, 0, n), Due.BAD);
            on.leavesAll("BAD ahead of SIZE: row(0, 3, " + n + ")", x -> x.row(0, 3, n), Due.BAD);
        }
    }

    private static void set() {
        for (int row : NO_ROW) on.leavesAll("set(" + row + ", 0, 1)", x -> x.set(row, 0, 1), Due.BAD);
        on.leavesAllButStatus("set(7, 0, 1)", x -> x.set(7, 0, 1), Due.NULL);
        on.leavesAllButStatus("NULL ahead of PLACE: set(7, -1, 1)", x -> x.set(7, -1, 1), Due.NULL);
        on.leavesAll("BAD ahead of PLACE: set(8, -1, 1)", x -> x.set(8, -1, 1), Due.BAD);
        for (int i : new int[] {-1, 3, 40, MIN, MAX}) on.leavesAllButStatus("set(0, " + i + ", 1)", x -> x.set(0, i, 1), Due.PLACE);
        for (int i : new int[] {-1, 0}) on.leavesAllButStatus("no items: set(2, " + i + ", 1)", x -> x.set(2, i, 1), Due.PLACE);
    }

    private static void copy() {
        for (int row : NO_ROW) {
            on.leavesAll("copy(" + row + ", 0, 0, 0, 1)", x -> x.copy(row, 0, 0, 0, 1), Due.BAD);
            on.leavesAll("copy(0, 0, " + row + ", 0, 1)", x -> x.copy(0, 0, row, 0, 1), Due.BAD);
            on.leavesAll("BAD ahead of NULL: copy(7, 0, " + row + ", 0, 1)", x -> x.copy(7, 0, row, 0, 1), Due.BAD);
            on.leavesAll("BAD ahead of NULL: copy(" + row + ", 0, 7, 0, 1)", x -> x.copy(row, 0, 7, 0, 1), Due.BAD);
        }
        int[][] missing = {{7, 0}, {0, 7}, {7, 7}, {7, 1}, {2, 7}};
        for (int[] m : missing) {
            String call = "copy(" + m[0] + ", 9, " + m[1] + ", 0, -1)";
            on.leavesAllButStatus("NULL ahead of STORE, PLACE: " + call, x -> x.copy(m[0], 9, m[1], 0, -1), Due.NULL);
        }
        int[][] lanes = {{0, 1}, {1, 0}, {0, 2}, {2, 0}, {1, 2}, {2, 1}};
        for (int[] l : lanes) {
            String call = "copy(" + l[0] + ", 0, " + l[1] + ", 0, ";
            on.leavesAllButStatus(call + "0)", x -> x.copy(l[0], 0, l[1], 0, 0), Due.STORE);
            on.leavesAllButStatus("STORE ahead of PLACE: " + call + "-1)", x -> x.copy(l[0], 0, l[1], 0, -1), Due.STORE);
        }
        // Rows 0 and 3 have 3 items each: i, j, n below 0, or beyond an end by one, by much, by none that is copied.
        int[][] places = {{-1, 0, 1}, {0, -1, 1}, {0, 0, -1}, {-1, 0, 0}, {0, -1, 0}, {0, 0, 4}, {1, 0, 3}, {0, 1, 3}, {3, 0, 1},
            {0, 3, 1}, {4, 0, 0}, {0, 4, 0}, {MAX, 0, 1}, {0, MAX, 1}, {1, 1, MAX}, {MAX, MAX, MAX}, {MIN, 0, MIN}, {0, 0, MIN}};
        for (int[] p : places) {
            String places3 = p[0] + ", 3, " + p[1] + ", " + p[2] + ")";
            on.leavesAllButStatus("copy(0, " + places3, x -> x.copy(0, p[0], 3, p[1], p[2]), Due.PLACE);
            on.leavesAllButStatus("one row: copy(0, " + places3, x -> x.copy(0, p[0], 0, p[1], p[2]), Due.PLACE);
        }
        on.leavesAllButStatus("none, at both ends: copy(0, 3, 3, 3, 0)", x -> x.copy(0, 3, 3, 3, 0), 0);
        on.leavesAllButStatus("no items: copy(2, 0, 2, 0, 0)", x -> x.copy(2, 0, 2, 0, 0), 0);
        on.leavesAllButStatus("onto itself: copy(0, 0, 0, 0, 3)", x -> x.copy(0, 0, 0, 0, 3), 3);
    }

    private static void drop() {
        for (int row : NO_ROW) on.leavesAll("drop(" + row + ")", x -> x.drop(row), Due.BAD);
        on.leavesAllButStatus("drop(7)", x -> x.drop(7), Due.NULL);
    }

    private static void feed() {
        for (int n : new int[] {0, 9, -1, MIN, MAX}) on.leavesAll("feed(32, " + n + ")", x -> x.feed(32, n), Due.BAD);
        for (int n = 1; n <= 8; n++) {
            int bytes = n;
            Twins room = new Twins(due, (401 - n) + " bytes: ", x -> tape(x, 401 - bytes));
            room.leavesAll("FULL: feed(32, " + n + ")", x -> x.feed(32, bytes), Due.FULL);
        }
        Twins full = new Twins(due, "400 bytes: ", x -> tape(x, 400));
        for (int n : new int[] {0, 9, -1}) full.leavesAll("BAD ahead of FULL: feed(32, " + n + ")", x -> x.feed(32, n), Due.BAD);
    }

    /** A tape of so many bytes, the first 15 of them a wall. */
    private static void tape(PalmTastes x, int bytes) {
        standing(x);
        int more = bytes - 15;
        for (int i = 0; i < more / 8; i++) x.feed(0x2020202020202020L, 8);
        if (more % 8 > 0) x.feed(0x2020202020202020L, more % 8);
    }

    /** "-1000100 less the place of a FAULT: all but the tape, and what fault() tells, stays." */
    private static void street() {
        Twins noTape = new Twins(due, "", x -> {
            standing(x);
            x.street();
            x.paint(0, 0, 1);
            x.walk(0, 0, 0);
        });
        noTape.leavesAllButFault("street of nothing", PalmTastes::street, -1000100);
        String[] texts = {"wall 0 0 31 0 0;", "wall 1 1 1 1 1;wall 1 1 1 1 1", "wall 1 1 1 1 1;reader wax 10", "wall 1 1 1 1 1;;"};
        int[] places = {9, 29, 26, 15};
        for (int i = 0; i < texts.length; i++) {
            String text = texts[i];
            noTape.leavesAllButFault("street of " + text, x -> Due.street(x, text), -1000100 - places[i]);
        }
        Twins untold = new Twins(due, "no street: ", RefusedTest::rows);
        untold.leavesAllButFault("street of a fault", x -> Due.street(x, "wall 1 1 1 1 1;wall 31"), -1000120);
    }

    private static void paint() {
        for (int w : NO_WALL) on.leavesAll("paint(" + w + ", 0, 1)", x -> x.paint(w, 0, 1), Due.BAD);
        for (int f : NO_FLAVOUR) on.leavesAll("paint(0, " + f + ", 1)", x -> x.paint(0, f, 1), Due.BAD);
        for (int n : new int[] {0, 31, -1, MIN, MAX}) on.leavesAll("paint(0, 0, " + n + ")", x -> x.paint(0, 0, n), Due.BAD);
        on.leavesAll("30 already: paint(0, 2, 31)", x -> x.paint(0, 2, 31), Due.BAD);
        bare.leavesAll("paint(0, 0, 1)", x -> x.paint(0, 0, 1), Due.BAD);
    }

    private static void day() {
        for (int rain : new int[] {-1, 6, MIN, MAX}) {
            on.leavesAll("day(" + rain + ")", x -> x.day(rain), Due.BAD);
            bare.leavesAll("STATE ahead of BAD: day(" + rain + ")", x -> x.day(rain), Due.STATE);
        }
        for (int rain = 0; rain <= 5; rain++) {
            int told = rain;
            bare.leavesAll("day(" + rain + ")", x -> x.day(told), Due.STATE);
        }
    }

    private static void walk() {
        for (int r : NO_READER) on.leavesAll("walk(" + r + ", 0, 0)", x -> x.walk(r, 0, 0), Due.BAD);
        for (int w : NO_WALL) {
            on.leavesAll("walk(0, " + w + ", 0)", x -> x.walk(0, w, 0), Due.BAD);
            on.leavesAll("walk(0, 0, " + w + ")", x -> x.walk(0, 0, w), Due.BAD);
        }
        on.leavesAll("walk(0, MIN, MAX)", x -> x.walk(0, MIN, MAX), Due.BAD);
        bare.leavesAll("walk(0, 0, 0)", x -> x.walk(0, 0, 0), Due.BAD);
    }

    private static void rest() {
        for (int r : NO_READER) on.leavesAll("rest(" + r + ")", x -> x.rest(r), Due.BAD);
        bare.leavesAll("rest(0)", x -> x.rest(0), Due.BAD);
    }

    /** "STATE: none": before a street, behind a street, behind an image, when all are undone. */
    private static void undo() {
        bare.leavesAll("undo()", PalmTastes::undo, Due.STATE);
        new Twins(due, "a street read: ", x -> {
            standing(x);
            x.street();
        }).leavesAll("undo()", PalmTastes::undo, Due.STATE);
        new Twins(due, "an image restored: ", x -> {
            standing(x);
            x.restore(0);
        }).leavesAll("undo()", PalmTastes::undo, Due.STATE);
        new Twins(due, "all undone: ", x -> {
            standing(x);
            for (int i = 0; i < 3; i++) x.undo();
        }).leavesAll("undo()", PalmTastes::undo, Due.STATE);
    }

    private static void palmAndWalls() {
        for (int w : NO_WALL) {
            on.leavesAll("wall(" + w + ", 0)", x -> x.wall(w, 0), Due.BAD);
            on.leavesAll("felt(0, " + w + ", 0)", x -> x.felt(0, w, 0), Due.BAD);
        }
        for (int f : NO_FLAVOUR) {
            on.leavesAll("wall(2, " + f + ")", x -> x.wall(2, f), Due.BAD);
            on.leavesAll("felt(1, 2, " + f + ")", x -> x.felt(1, 2, f), Due.BAD);
        }
        for (int r : NO_READER) {
            on.leavesAll("reader(" + r + ", 0)", x -> x.reader(r, 0), Due.BAD);
            on.leavesAll("felt(" + r + ", 0, 0)", x -> x.felt(r, 0, 0), Due.BAD);
        }
        for (int what : new int[] {-1, 6, MIN, MAX}) on.leavesAll("reader(1, " + what + ")", x -> x.reader(1, what), Due.BAD);
        bare.leavesAll("wall(0, 0)", x -> x.wall(0, 0), Due.BAD);
        bare.leavesAll("reader(0, 5)", x -> x.reader(0, 5), Due.BAD);
        bare.leavesAll("felt(0, 0, 0)", x -> x.felt(0, 0, 0), Due.BAD);
    }

    private static void read() {
        for (int r : NO_READER) on.leavesAll("read(" + r + ", 0, 0, 0)", x -> x.read(r, 0, 0, 0), Due.BAD);
        for (int w : NO_WALL) {
            on.leavesAll("read(0, " + w + ", 0, 0)", x -> x.read(0, w, 0, 0), Due.BAD);
            on.leavesAll("BAD ahead of NONE: read(0, 0, " + w + ", 9)", x -> x.read(0, 0, w, 9), Due.BAD);
        }
        for (int k : new int[] {-1, MIN}) on.leavesAll("read(0, 0, 2, " + k + ")", x -> x.read(0, 0, 2, k), Due.BAD);
        for (int k : new int[] {3, MAX}) on.leavesAll("read(0, 0, 2, " + k + ")", x -> x.read(0, 0, 2, k), Due.NONE);
        on.leavesAll("down: read(0, 2, 1, 2)", x -> x.read(0, 2, 1, 2), Due.NONE);
        on.leavesAll("one wall: read(0, 2, 2, 1)", x -> x.read(0, 2, 2, 1), Due.NONE);
        bare.leavesAll("read(0, 0, 0, 0)", x -> x.read(0, 0, 0, 0), Due.BAD);
    }

    /** "(refused in this order: BAD: all but ITEMS; NULL; PLACE; then BAD: an ITEM that is no FLAVOUR)" */
    private static void wrong() {
        for (int r : NO_READER) on.leavesAll("BAD ahead of NULL: wrong(" + r + ", 0, 0, 7)", x -> x.wrong(r, 0, 0, 7), Due.BAD);
        for (int w : NO_WALL) {
            on.leavesAll("BAD ahead of NULL: wrong(0, " + w + ", 0, 7)", x -> x.wrong(0, w, 0, 7), Due.BAD);
            on.leavesAll("BAD ahead of PLACE: wrong(0, 0, " + w + ", 2)", x -> x.wrong(0, 0, w, 2), Due.BAD);
        }
        for (int row : NO_ROW) on.leavesAll("wrong(0, 0, 0, " + row + ")", x -> x.wrong(0, 0, 0, row), Due.BAD);
        on.leavesAllButStatus("wrong(0, 0, 0, 7)", x -> x.wrong(0, 0, 0, 7), Due.NULL);
        on.leavesAllButStatus("no items: wrong(0, 0, 0, 2)", x -> x.wrong(0, 0, 0, 2), Due.PLACE);
        on.leavesAllButStatus("2 items, 3 walls: wrong(0, 0, 2, 1)", x -> x.wrong(0, 0, 2, 1), Due.PLACE);
        on.leavesAllButStatus("2 items, 3 walls down: wrong(0, 2, 0, 1)", x -> x.wrong(0, 2, 0, 1), Due.PLACE);
        on.leavesAllButStatus("2 items, 2 walls: wrong(0, 2, 1, 1)", x -> x.wrong(0, 2, 1, 1), 0);
        on.leavesAllButStatus("the item of 5 is not told: wrong(0, 1, 2, 3)", x -> x.wrong(0, 1, 2, 3), 0);
        on.leavesAll("the item of 5 is told: wrong(0, 0, 2, 3)", x -> x.wrong(0, 0, 2, 3), Due.BAD);
        on.leavesAll("an item of -2: wrong(0, 0, 2, 6)", x -> x.wrong(0, 0, 2, 6), Due.BAD);
        on.leavesAll("an item of 100: wrong(0, 0, 2, 5)", x -> x.wrong(0, 0, 2, 5), Due.BAD);
        on.leavesAllButStatus("an item may be -1: wrong(0, 2, 2, 4)", x -> x.wrong(0, 2, 2, 4), Due.NONE);
        Twins shorter = new Twins(due, "one item, of 5: ", RefusedTest::itemOf5);
        shorter.leavesAllButStatus("PLACE ahead of an item: wrong(0, 0, 1, 0)", x -> x.wrong(0, 0, 1, 0), Due.PLACE);
        shorter.leavesAll("wrong(0, 0, 0, 0)", x -> x.wrong(0, 0, 0, 0), Due.BAD);
        bare.leavesAll("wrong(0, 0, 0, 0)", x -> x.wrong(0, 0, 0, 0), Due.BAD);
    }

    private static void itemOf5(PalmTastes x) {
        standing(x);
        Due.row(x, 0, 5);
        x.as(0, 2);
    }

    private static void often() {
        for (int r : NO_READER) on.leavesAll("often(" + r + ", 0, 0)", x -> x.often(r, 0, 0), Due.BAD);
        for (int w : NO_WALL) {
            on.leavesAll("often(0, " + w + ", 0)", x -> x.often(0, w, 0), Due.BAD);
            on.leavesAll("often(0, 0, " + w + ")", x -> x.often(0, 0, w), Due.BAD);
        }
        on.leavesAll("often(1, 2, 2)", x -> x.often(1, 2, 2), Due.NONE);
        bare.leavesAll("often(0, 0, 0)", x -> x.often(0, 0, 0), Due.BAD);
    }

    private static void spice() {
        for (int r : NO_READER) on.leavesAll("BAD ahead of NULL: spice(" + r + ", 0, 0, 7, 0)", x -> x.spice(r, 0, 0, 7, 0), Due.BAD);
        for (int w : NO_WALL) {
            on.leavesAll("BAD ahead of NULL: spice(0, " + w + ", 0, 7, 0)", x -> x.spice(0, w, 0, 7, 0), Due.BAD);
            on.leavesAll("BAD ahead of PLACE: spice(0, 0, " + w + ", 2, 0)", x -> x.spice(0, 0, w, 2, 0), Due.BAD);
        }
        for (int row : NO_ROW) on.leavesAll("spice(0, 0, 0, " + row + ", 0)", x -> x.spice(0, 0, 0, row, 0), Due.BAD);
        for (int k : new int[] {-2, MIN}) {
            on.leavesAll("spice(0, 0, 2, 0, " + k + ")", x -> x.spice(0, 0, 2, 0, k), Due.BAD);
            on.leavesAll("BAD ahead of NULL: spice(0, 0, 2, 7, " + k + ")", x -> x.spice(0, 0, 2, 7, k), Due.BAD);
            on.leavesAll("BAD ahead of PLACE: spice(0, 0, 2, 2, " + k + ")", x -> x.spice(0, 0, 2, 2, k), Due.BAD);
        }
        for (int k : new int[] {-1, 0, 3, MAX}) {
            on.leavesAllButStatus("spice(0, 0, 2, 7, " + k + ")", x -> x.spice(0, 0, 2, 7, k), Due.NULL);
            on.leavesAllButStatus("2 items, 3 walls: spice(0, 0, 2, 1, " + k + ")", x -> x.spice(0, 0, 2, 1, k), Due.PLACE);
            on.leavesAll("an item of 5: spice(0, 0, 2, 3, " + k + ")", x -> x.spice(0, 0, 2, 3, k), Due.BAD);
            on.leavesAll("an item of -1: spice(0, 0, 2, 4, " + k + ")", x -> x.spice(0, 0, 2, 4, k), Due.BAD);
        }
        Twins shorter = new Twins(due, "one item, of 5: ", RefusedTest::itemOf5);
        shorter.leavesAllButStatus("PLACE ahead of an item: spice(0, 0, 1, 0, 0)", x -> x.spice(0, 0, 1, 0, 0), Due.PLACE);
        for (int k : new int[] {3, MAX}) on.leavesAllButStatus("spice(1, 0, 2, 0, " + k + ")", x -> x.spice(1, 0, 2, 0, k), Due.NONE);
        on.leavesAllButStatus("one wall: spice(1, 2, 2, 0, 1)", x -> x.spice(1, 2, 2, 0, 1), Due.NONE);
        bare.leavesAll("spice(0, 0, 0, 0, 0)", x -> x.spice(0, 0, 0, 0, 0), Due.BAD);
    }

    private static void both() {
        for (int r : NO_READER) on.leavesAll("BAD ahead of NULL: both(" + r + ", 0, 0, 7)", x -> x.both(r, 0, 0, 7), Due.BAD);
        for (int w : NO_WALL) {
            on.leavesAll("BAD ahead of NULL: both(0, " + w + ", 0, 7)", x -> x.both(0, w, 0, 7), Due.BAD);
            on.leavesAll("BAD ahead of PLACE: both(0, 0, " + w + ", 2)", x -> x.both(0, 0, w, 2), Due.BAD);
        }
        for (int row : NO_ROW) on.leavesAll("both(0, 0, 0, " + row + ")", x -> x.both(0, 0, 0, row), Due.BAD);
        on.leavesAllButStatus("both(0, 0, 2, 7)", x -> x.both(0, 0, 2, 7), Due.NULL);
        on.leavesAllButStatus("2 items, 3 walls: both(0, 0, 2, 1)", x -> x.both(0, 0, 2, 1), Due.PLACE);
        on.leavesAll("an item of 5: both(0, 0, 2, 3)", x -> x.both(0, 0, 2, 3), Due.BAD);
        on.leavesAll("an item of -1: both(0, 0, 2, 4)", x -> x.both(0, 0, 2, 4), Due.BAD);
        Twins shorter = new Twins(due, "one item, of 5: ", RefusedTest::itemOf5);
        shorter.leavesAllButStatus("PLACE ahead of an item: both(0, 1, 0, 0)", x -> x.both(0, 1, 0, 0), Due.PLACE);
        bare.leavesAll("both(0, 0, 0, 0)", x -> x.both(0, 0, 0, 0), Due.BAD);
    }

    private static void order() {
        for (int r : NO_READER) on.leavesAll("order(" + r + ", 30, 0)", x -> x.order(r, 30, 0), Due.BAD);
        for (int strong : new int[] {0, 31, -1, MIN, MAX}) {
            on.leavesAll("order(0, " + strong + ", 0)", x -> x.order(0, strong, 0), Due.BAD);
        }
        for (int k : new int[] {-1, 5, MIN, MAX}) {
            on.leavesAll("order(0, 30, " + k + ")", x -> x.order(0, 30, k), Due.BAD);
            on.leavesAll("BAD ahead of NONE: order(0, 1, " + k + ")", x -> x.order(0, 1, k), Due.BAD);
        }
        bare.leavesAll("order(0, 30, 0)", x -> x.order(0, 30, 0), Due.BAD);
    }

    private static void written() {
        for (int w : NO_WALL) on.leavesAll("written(" + w + ", 0, 0, 0)", x -> x.written(w, 0, 0, 0), Due.BAD);
        for (int f : NO_FLAVOUR) on.leavesAll("written(0, " + f + ", 0, 0)", x -> x.written(0, f, 0, 0), Due.BAD);
        for (int days : new int[] {-1, 21, MIN, MAX}) {
            on.leavesAll("written(0, 0, " + days + ", 0)", x -> x.written(0, 0, days, 0), Due.BAD);
        }
        for (int what : new int[] {-1, 2, MIN, MAX}) {
            on.leavesAll("written(0, 0, 0, " + what + ")", x -> x.written(0, 0, 0, what), Due.BAD);
            on.leavesAll("BAD ahead of NONE: written(0, 2, 20, " + what + ")", x -> x.written(0, 2, 20, what), Due.BAD);
        }
        bare.leavesAll("written(0, 0, 0, 0)", x -> x.written(0, 0, 0, 0), Due.BAD);
    }

    /** "BAD: ROW; STATE: no STREET (ahead of BAD); NULL; PLACE; then BAD: an ITEM not 0 to 99." */
    private static void forged() {
        for (int row : NO_ROW) {
            on.leavesAll("BAD ahead of PLACE: forged(" + row + ", -1)", x -> x.forged(row, -1), Due.BAD);
            bare.leavesAll("STATE ahead of BAD: forged(" + row + ", 0)", x -> x.forged(row, 0), Due.STATE);
        }
        bare.leavesAll("STATE ahead of NULL: forged(7, 0)", x -> x.forged(7, 0), Due.STATE);
        bare.leavesAll("STATE ahead of PLACE: forged(0, 9)", x -> x.forged(0, 9), Due.STATE);
        bare.leavesAll("STATE ahead of an item: forged(5, 0)", x -> x.forged(5, 0), Due.STATE);
        on.leavesAllButStatus("NULL ahead of PLACE: forged(7, -1)", x -> x.forged(7, -1), Due.NULL);
        for (int i : new int[] {-1, 1, 3, MIN, MAX}) {
            on.leavesAllButStatus("forged(0, " + i + ")", x -> x.forged(0, i), Due.PLACE);
            on.leavesAllButStatus("PLACE ahead of an item: forged(5, " + i + ")", x -> x.forged(5, i), Due.PLACE);
        }
        on.leavesAllButStatus("no items: forged(2, 0)", x -> x.forged(2, 0), Due.PLACE);
        on.leavesAll("an item of 100: forged(5, 0)", x -> x.forged(5, 0), Due.BAD);
        on.leavesAll("an item of -1: forged(4, 0)", x -> x.forged(4, 0), Due.BAD);
    }

    private static void image() {
        for (int k : new int[] {-1, 2, MIN, MAX}) {
            on.leavesAll("image(" + k + ")", x -> x.image(k), Due.BAD);
            bare.leavesAll("BAD ahead of STATE: image(" + k + ")", x -> x.image(k), Due.BAD);
        }
        for (int k = 0; k < 2; k++) {
            int image = k;
            bare.leavesAll("image(" + k + ")", x -> x.image(image), Due.STATE);
        }
    }

    private static void restore() {
        for (int k : new int[] {-1, 2, MIN, MAX}) {
            on.leavesAll("restore(" + k + ")", x -> x.restore(k), Due.BAD);
            bare.leavesAll("BAD ahead of STATE: restore(" + k + ")", x -> x.restore(k), Due.BAD);
        }
        on.leavesAll("the other was kept: restore(1)", x -> x.restore(1), Due.STATE);
        bare.leavesAll("restore(0)", x -> x.restore(0), Due.STATE);
        bare.leavesAll("restore(1)", x -> x.restore(1), Due.STATE);
    }

    private static void kindAndAs() {
        for (int r : NO_READER) {
            on.leavesAll("kind(" + r + ")", x -> x.kind(r), Due.BAD);
            on.leavesAll("BAD ahead of KIND: as(" + r + ", 2)", x -> x.as(r, 2), Due.BAD);
        }
        for (int kind : new int[] {-1, 6, MIN, MAX}) on.leavesAll("as(0, " + kind + ")", x -> x.as(0, kind), Due.BAD);
        for (int kind : new int[] {2, 3, 4, 5}) on.leavesAllButStatus("plain: as(0, " + kind + ")", x -> x.as(0, kind), Due.KIND);
        for (int kind : new int[] {1, 2, 3}) on.leavesAllButStatus("fever: as(1, " + kind + ")", x -> x.as(1, kind), Due.KIND);
        for (int kind : new int[] {0, 1}) on.leavesAllButStatus("plain: as(0, " + kind + ")", x -> x.as(0, kind), 0);
        for (int kind : new int[] {0, 4, 5}) on.leavesAllButStatus("fever: as(1, " + kind + ")", x -> x.as(1, kind), 1);
        bare.leavesAll("kind(0)", x -> x.kind(0), Due.BAD);
        bare.leavesAll("as(0, 0)", x -> x.as(0, 0), Due.BAD);
    }

    /** "THE TRACE is empty ahead of it (where that is refused it stays)." */
    private static void ask() {
        for (int r : NO_READER) on.leavesAll("ask(" + r + ", 0)", x -> x.ask(r, 0), Due.BAD);
        for (int what : new int[] {-1, 2, 10, MIN, MAX}) on.leavesAll("ask(0, " + what + ")", x -> x.ask(0, what), Due.BAD);
        bare.leavesAll("ask(0, 0)", x -> x.ask(0, 0), Due.BAD);
    }

    private static void traceCountStatus() {
        for (int i : new int[] {-1, 5, 15, 16, 17, MIN, MAX}) on.leavesAll("trace(" + i + ")", x -> x.trace(i), Due.NONE);
        bare.leavesAll("trace(0)", x -> x.trace(0), Due.NONE);
        for (int what : new int[] {-1, 7, MIN, MAX}) {
            on.leavesAll("count(" + what + ")", x -> x.count(what), Due.BAD);
            bare.leavesAll("count(" + what + ")", x -> x.count(what), Due.BAD);
        }
    }

    /** A street needs no reader; then there is none that walks, rests, or is asked. */
    private static void noReaders() {
        Twins empty = new Twins(due, "no reader: ", x -> {
            rows(x);
            Due.street(x, "wall 1 2 3 4 5;");
            x.paint(0, 0, 1);
        });
        empty.leavesAll("walk(0, 0, 0)", x -> x.walk(0, 0, 0), Due.BAD);
        empty.leavesAll("rest(0)", x -> x.rest(0), Due.BAD);
        empty.leavesAll("reader(0, 0)", x -> x.reader(0, 0), Due.BAD);
        empty.leavesAll("felt(0, 0, 0)", x -> x.felt(0, 0, 0), Due.BAD);
        empty.leavesAll("read(0, 0, 0, 0)", x -> x.read(0, 0, 0, 0), Due.BAD);
        empty.leavesAll("wrong(0, 0, 0, 0)", x -> x.wrong(0, 0, 0, 0), Due.BAD);
        empty.leavesAll("often(0, 0, 0)", x -> x.often(0, 0, 0), Due.BAD);
        empty.leavesAll("spice(0, 0, 0, 0, 0)", x -> x.spice(0, 0, 0, 0, 0), Due.BAD);
        empty.leavesAll("both(0, 0, 0, 0)", x -> x.both(0, 0, 0, 0), Due.BAD);
        empty.leavesAll("order(0, 30, 0)", x -> x.order(0, 30, 0), Due.BAD);
        empty.leavesAll("kind(0)", x -> x.kind(0), Due.BAD);
        empty.leavesAll("as(0, 0)", x -> x.as(0, 0), Due.BAD);
        empty.leavesAll("ask(0, 0)", x -> x.ask(0, 0), Due.BAD);
        empty.leavesAll("written(0, 0, 0, 0)", x -> x.written(0, 0, 0, 0), 2);
    }

    /** "FORETOLD (nothing changes, all palms as they are)": reader 0 is behind a walk, reader 1 as he was told. */
    private static void foretoldChangesNothing() {
        on.leavesAll("read(0, 0, 2, 0)", x -> x.read(0, 0, 2, 0), 2);
        on.leavesAll("read(1, 0, 2, 1)", x -> x.read(1, 0, 2, 1), 3);
        on.leavesAll("read(1, 2, 0, 0)", x -> x.read(1, 2, 0, 0), -1);
        on.leavesAllButStatus("wrong(1, 0, 2, 0)", x -> x.wrong(1, 0, 2, 0), 0);
        on.leavesAll("often(1, 0, 2)", x -> x.often(1, 0, 2), Due.NONE);
        on.leavesAllButStatus("spice(1, 2, 2, 0, 0)", x -> x.spice(1, 2, 2, 0, 0), 4);
        on.leavesAllButStatus("spice(1, 2, 2, 0, -1)", x -> x.spice(1, 2, 2, 0, -1), 4);
        on.leavesAllButStatus("both(1, 2, 2, 0)", x -> x.both(1, 2, 2, 0), 4);
        on.leavesAll("order(1, 30, 4)", x -> x.order(1, 30, 4), 4);
        on.leavesAll("written(2, 2, 20, 1)", x -> x.written(2, 2, 20, 1), 30);
        on.leavesAllButStatus("forged(0, 0)", x -> x.forged(0, 0), 0);
    }

    private static void askedChangesNothing() {
        on.leavesAll("wall(0, 2)", x -> x.wall(0, 2), 26);
        on.leavesAll("reader(1, 1)", x -> x.reader(1, 1), 3);
        on.leavesAll("felt(1, 0, 2)", x -> x.felt(1, 0, 2), 26);
        on.leavesAll("fault()", PalmTastes::fault, 2);
        on.leavesAll("status()", PalmTastes::status, 3);
        on.leavesAll("kind(1)", x -> x.kind(1), 5);
        on.leavesAll("ask(1, 1), asked ahead of it too", x -> x.ask(1, 1), 1 - 2 * (3 - 100));
        on.leavesAll("trace(0)", x -> x.trace(0), 23);
        on.leavesAll("trace(4)", x -> x.trace(4), 10);
        int[] counts = {7, 3, 2, 1, 3, (7 + 6 + 26) + (1 + 6 + 28), 15};
        for (int what = 0; what < 7; what++) {
            int asked = what;
            on.leavesAll("count(" + what + ")", x -> x.count(asked), counts[what]);
        }
    }
}
