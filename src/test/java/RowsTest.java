/** Promises 1 to 5, and what status() (32) tells of them. */
public final class RowsTest {
    private static final Due due = new Due();

    public static void main(String[] args) {
        newObject();
        row();
        set();
        copy();
        drop();
        status();
        constants();
        due.end("RowsTest");
    }

    private static void newObject() {
        PalmTastes x = new PalmTastes();
        for (int what = 0; what < 7; what++) due.is("new count(" + what + ")", x.count(what), 0);
        due.is("new fault", x.fault(), 0);
        due.is("new status", x.status(), 0);
        due.is("new trace", x.trace(0), Due.NONE);
        due.is("new day", x.day(0), Due.STATE);
        due.is("new image", x.image(0), Due.STATE);
        due.is("new restore", x.restore(1), Due.STATE);
        due.is("new undo", x.undo(), Due.STATE);
        due.is("new wall", x.wall(0, 0), Due.BAD);
        due.is("new reader", x.reader(0, 0), Due.BAD);
        for (int row = 0; row < 8; row++) due.is("new drop", x.drop(row), Due.NULL);
        Due.street(x, "wall 1 2 3 4 5;");
        due.is("another new one", new PalmTastes().count(1), 0);
    }

    private static void row() {
        PalmTastes x = new PalmTastes();
        due.is("row(0, 0, 0)", x.row(0, 0, 0), 0);
        due.is("row(7, 2, 40)", x.row(7, 2, 40), 40);
        due.is("row(8, ..)", x.row(8, 0, 1), Due.BAD);
        due.is("row(-1, ..)", x.row(-1, 0, 1), Due.BAD);
        due.is("lane 3", x.row(0, 3, 1), Due.BAD);
        due.is("lane -1", x.row(0, -1, 1), Due.BAD);
        due.is("41 items", x.row(0, 0, 41), Due.BAD);
        due.is("most items", x.row(0, 0, Integer.MAX_VALUE), Due.BAD);
        due.is("-1 items", x.row(0, 0, -1), Due.SIZE);
        due.is("least items", x.row(0, 0, Integer.MIN_VALUE), Due.SIZE);
        due.is("BAD ahead of SIZE", x.row(8, 0, -1), Due.BAD);
        due.is("lane ahead of SIZE", x.row(0, 3, -1), Due.BAD);
        due.is("rows there", x.count(0), 2);
        x.set(7, 39, 5);
        due.is("a refused row stays", x.row(7, 1, -1), Due.SIZE);
        due.is("as long as it was", x.drop(7), 40);
        x.row(1, 2, 3);
        x.set(1, 0, 70000);
        x.set(1, 2, 9);
        due.is("in place of what is there", x.row(1, 1, 4), 4);
        due.is("rows there yet", x.count(0), 2);
        x.row(2, 1, 4);
        due.is("a lane anew", x.copy(1, 0, 2, 0, 4), 4);
        Due.street(x, "wall 0 0 0 0 0;wall 0 0 30 0 0;wall 0 0 30 0 0;");
        due.is("items are 0 at first", x.forged(1, 0), 0);
        due.is("and all of them", x.forged(1, 1), 0);
    }

    private static void set() {
        PalmTastes x = new PalmTastes();
        x.row(0, 0, 2);
        x.row(1, 1, 2);
        x.row(2, 2, 2);
        int[][] bytes = {{127, 127}, {128, -128}, {255, -1}, {256, 0}, {-129, 127}, {-1, -1}, {0x7fffff80, -128}};
        for (int[] b : bytes) due.is("byte " + b[0], x.set(0, 1, b[0]), b[1]);
        int[][] shorts = {{32767, 32767}, {32768, -32768}, {65535, -1}, {65536, 0}, {-32769, 32767}, {-128, -128}};
        for (int[] s : shorts) due.is("short " + s[0], x.set(1, 1, s[0]), s[1]);
        due.is("most int", x.set(2, 1, Integer.MAX_VALUE), Integer.MAX_VALUE);
        due.is("least int", x.set(2, 0, Integer.MIN_VALUE), Integer.MIN_VALUE);
        due.is("row 8", x.set(8, 0, 0), Due.BAD);
        due.is("row -1", x.set(-1, 0, 0), Due.BAD);
        due.is("missing", x.set(3, 9, 0), Due.NULL);
        due.is("place 2", x.set(0, 2, 0), Due.PLACE);
        due.is("place -1", x.set(0, -1, 0), Due.PLACE);
        due.is("place of most", x.set(0, Integer.MAX_VALUE, 0), Due.PLACE);
        due.is("place of least", x.set(0, Integer.MIN_VALUE, 0), Due.PLACE);
        x.row(4, 0, 0);
        due.is("place of an empty one", x.set(4, 0, 0), Due.PLACE);
    }

    /** Items are seen by wrong(): it tells the first that is not what is read, 0 all along here. */
    private static void copy() {
        PalmTastes x = Due.on("wall 9 0 0 0 0;wall 9 0 0 0 0;wall 9 0 0 0 0;wall 9 0 0 0 0;reader scholar 0 0 0 0 0;");
        Due.row(x, 0, 1, 0, 0, 0, 2, 2);
        due.is("overlap up", x.copy(0, 0, 0, 2, 4), 4);
        due.is("then 1 0 1 0 0 0", x.wrong(0, 0, 3, 0), 0);
        x.set(0, 0, 0);
        due.is("then 0 0 1 0", x.wrong(0, 0, 3, 0), 2);
        x.set(0, 2, 0);
        due.is("then 0 0 0 0", x.wrong(0, 0, 3, 0), Due.NONE);
        Due.row(x, 0, 0, 0, 0, 0, 3);
        due.is("overlap down", x.copy(0, 1, 0, 0, 4), 4);
        due.is("then 0 0 0 3", x.wrong(0, 0, 3, 0), 3);
        Due.row(x, 1, 0, 0, 0, 0);
        due.is("to another", x.copy(0, 3, 1, 1, 1), 1);
        due.is("which is 0 3 0 0", x.wrong(0, 0, 3, 1), 1);
        due.is("none, at both ends", x.copy(0, 5, 1, 4, 0), 0);
        due.is("all", x.copy(1, 0, 0, 1, 4), 4);

        due.is("a 8", x.copy(8, 0, 1, 0, 1), Due.BAD);
        due.is("b -1", x.copy(0, 0, -1, 0, 1), Due.BAD);
        due.is("BAD ahead of NULL", x.copy(5, 0, 8, 0, 1), Due.BAD);
        due.is("a missing", x.copy(5, 0, 1, 0, 1), Due.NULL);
        due.is("b missing", x.copy(1, 0, 5, 0, 1), Due.NULL);
        x.row(2, 1, 4);
        due.is("two lanes", x.copy(2, 0, 1, 0, 1), Due.STORE);
        due.is("STORE ahead of PLACE", x.copy(2, 9, 1, 0, -1), Due.STORE);
        due.is("STORE of none", x.copy(2, 0, 1, 0, 0), Due.STORE);
        int[][] places = {{-1, 0, 1}, {0, -1, 1}, {0, 0, -1}, {5, 0, 1}, {0, 4, 1}, {0, 0, 5}, {6, 0, 0}, {0, 5, 0},
            {Integer.MAX_VALUE, 0, 1}, {0, Integer.MAX_VALUE, 1}, {1, 1, Integer.MAX_VALUE}, {1, 1, Integer.MIN_VALUE},
            {Integer.MAX_VALUE, Integer.MAX_VALUE, Integer.MAX_VALUE}, {Integer.MIN_VALUE, 0, Integer.MIN_VALUE}};
        for (int[] p : places) {
            due.is("copy from " + p[0] + " to " + p[1] + " of " + p[2], x.copy(0, p[0], 1, p[1], p[2]), Due.PLACE);
        }
        due.is("what is found changes nothing", x.wrong(0, 0, 3, 1), 1);
    }

    private static void drop() {
        PalmTastes x = new PalmTastes();
        x.row(3, 0, 7);
        due.is("drop(3)", x.drop(3), 7);
        due.is("is missing", x.set(3, 0, 1), Due.NULL);
        due.is("is missing again", x.drop(3), Due.NULL);
        due.is("rows there", x.count(0), 0);
        due.is("drop(8)", x.drop(8), Due.BAD);
        due.is("drop(-1)", x.drop(-1), Due.BAD);
        x.row(3, 0, 0);
        due.is("an empty one", x.drop(3), 0);
    }

    private static void status() {
        PalmTastes x = Due.on("wall 1 1 1 1 1;reader plain 0 0 0 0 0;");
        x.row(0, 0, -5);
        due.is("SIZE", x.status(), 4);
        x.row(9, 0, 1);
        due.is("BAD leaves it", x.status(), 4);
        x.paint(0, 0, 1);
        x.wall(0, 0);
        x.felt(0, 0, 0);
        x.ask(0, 0);
        x.count(0);
        x.street();
        due.is("calls without a row leave it", x.status(), 4);
        x.row(0, 0, 3);
        due.is("none", x.status(), 0);
        x.set(0, 3, 0);
        due.is("PLACE", x.status(), 2);
        x.set(0, 0, 0);
        due.is("none by set", x.status(), 0);
        x.set(1, 0, 0);
        due.is("NULL", x.status(), 1);
        x.copy(0, 0, 0, 1, 2);
        due.is("none by copy", x.status(), 0);
        x.row(1, 1, 1);
        x.copy(0, 0, 1, 0, 1);
        due.is("STORE", x.status(), 5);
        x.drop(1);
        due.is("none by drop", x.status(), 0);
        x.drop(1);
        due.is("NULL by drop", x.status(), 1);
        x.as(0, 5);
        due.is("KIND", x.status(), 3);
        x.as(0, 6);
        x.forged(8, 0);
        x.wrong(0, 0, 0, -1);
        due.is("BAD leaves KIND", x.status(), 3);
        x.as(0, 0);
        due.is("none by as", x.status(), 0);
    }

    private static void constants() {
        due.is("NONE", PalmTastes.NONE, -1000000);
        due.is("BAD", PalmTastes.BAD, -1000001);
        due.is("STATE", PalmTastes.STATE, -1000002);
        due.is("FULL", PalmTastes.FULL, -1000003);
    }
}
