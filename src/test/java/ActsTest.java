/** Promises 9 to 16: acts, what they leave, and how they are undone; what is felt. */
public final class ActsTest {
    private static final Due due = new Due();

    public static void main(String[] args) {
        paint();
        day();
        allDays();
        walk();
        palms();
        rest();
        undo();
        oldestForgotten();
        wallAndReader();
        felt();
        due.end("ActsTest");
    }

    private static void paint() {
        PalmTastes x = Due.on("wall 0 1 2 3 4;wall 0 0 0 0 29;");
        due.is("paint(0, 2, 5)", x.paint(0, 2, 5), 7);
        due.is("that alone", x.count(5), 44);
        due.is("30 at most", x.paint(1, 4, 2), 30);
        due.is("30 at most, again", x.paint(1, 4, 30), 30);
        due.is("by 30", x.paint(1, 0, 30), 30);
        due.is("by 0", x.paint(0, 0, 0), Due.BAD);
        due.is("by 31", x.paint(0, 0, 31), Due.BAD);
        due.is("by -1", x.paint(0, 0, -1), Due.BAD);
        due.is("by most", x.paint(0, 0, Integer.MAX_VALUE), Due.BAD);
        due.is("wall 2", x.paint(2, 0, 1), Due.BAD);
        due.is("wall -1", x.paint(-1, 0, 1), Due.BAD);
        due.is("flavour 5", x.paint(0, 5, 1), Due.BAD);
        due.is("flavour -1", x.paint(1, -1, 1), Due.BAD);
        due.is("acts", x.count(4), 4);
        due.is("strong in all", x.count(5), 75);
    }

    private static void day() {
        PalmTastes x = Due.on("wall 1 2 3 4 0;wall 30 7 9 6 5;");
        due.is("day(0)", x.day(0), 2);
        int[] then = {0, 1, 0, 3, 0, 29, 6, 6, 5, 4};
        for (int i = 0; i < 10; i++) due.is("then " + i, x.wall(i / 5, i % 5), then[i]);
        due.is("day(5)", x.day(5), 6);
        due.is("sweet is left", x.wall(1, 0), 23);
        due.is("bitter is gone", x.wall(1, 1), 0);
        due.is("strong in all", x.count(5), 23);
        due.is("gone ones are not gone again", x.day(2), 0);
        due.is("days", x.count(3), 3);
        due.is("rain 6", x.day(6), Due.BAD);
        due.is("rain -1", x.day(-1), Due.BAD);
        due.is("days yet", x.count(3), 3);
        due.is("STATE ahead of BAD", new PalmTastes().day(6), Due.STATE);
        PalmTastes y = Due.on("wall 0 0 30 0 0;");
        for (int rain = 0; rain <= 5; rain++) {
            y.day(rain);
            due.is("sour behind rain " + rain, y.wall(0, 2), Math.max(0, 30 - (rain + 1) * 3 - rain * (rain + 1) / 2));
        }
        due.is("a day by which nothing is gone", y.day(0), 0);
    }

    /** Beyond the 512 calls for which answers are promised: no shorter run comes to FULL. */
    private static void allDays() {
        PalmTastes x = Due.on("wall 0 0 0 0 0;");
        for (int i = 0; i < 9999; i++) x.day(0);
        due.is("9999 days", x.count(3), 9999);
        due.is("one more", x.day(0), Due.FULL);
        due.is("BAD ahead of FULL", x.day(6), Due.BAD);
        due.is("undone", x.undo(), 23);
        due.is("and again", x.day(0), 0);
    }

    private static void walk() {
        PalmTastes x = Due.on("wall 3 0 0 0 0;wall 0 0 0 0 0;wall 3 1 0 0 0;reader plain 0 0 0 0 0;reader wax 0 0 0 0 0;");
        due.is("up", x.walk(0, 0, 2), 2);
        due.is("sweet", x.reader(0, 0), 1);
        due.is("none but sweet", x.reader(0, 1), 0);
        due.is("aftertaste", x.reader(0, 5), 0);
        due.is("down", x.walk(0, 2, 0), 2);
        due.is("nothing tasted by wax", x.walk(1, 0, 2), 0);
        due.is("one wall", x.walk(0, 1, 1), 0);
        due.is("nothing is no aftertaste", x.reader(0, 5), -1);
        due.is("reader 2", x.walk(2, 0, 0), Due.BAD);
        due.is("reader -1", x.walk(-1, 0, 0), Due.BAD);
        due.is("from 3", x.walk(0, 3, 0), Due.BAD);
        due.is("from -1", x.walk(0, -1, 0), Due.BAD);
        due.is("to 3", x.walk(0, 0, 3), Due.BAD);
        due.is("to -1", x.walk(0, 0, -1), Due.BAD);
        due.is("from least to most", x.walk(0, Integer.MIN_VALUE, Integer.MAX_VALUE), Due.BAD);
        due.is("acts", x.count(4), 4);
        due.is("walls stay", x.count(5), 7);
    }

    private static void palm(String what, PalmTastes x, int reader, int... palm) {
        for (int i = 0; i < 6; i++) due.is(what + ": reader(" + reader + ", " + i + ")", x.reader(reader, i), palm[i]);
    }

    private static void palms() {
        PalmTastes x = Due.on("wall 20 0 19 0 0;wall 0 0 0 0 0;reader plain 9 2 8 0 1;reader scholar 9 2 8 0 1;"
            + "reader child 9 2 8 0 1;reader wax 9 2 8 0 1;reader fever 9 0 9 0 0;");
        x.walk(0, 0, 0);
        palm("20 - 9 and 19 - 8 are alike: the first", x, 0, 9, 1, 7, 0, 0, 0);
        x.walk(0, 0, 0);
        palm("2 less of the aftertaste", x, 0, 8, 0, 8, 0, 0, 2);
        x.walk(0, 1, 1);
        palm("nothing", x, 0, 7, 0, 7, 0, 0, -1);
        x.walk(1, 0, 0);
        palm("a scholar", x, 1, 9, 2, 8, 0, 1, 0);
        x.walk(1, 0, 0);
        palm("a scholar again", x, 1, 9, 2, 8, 0, 1, 2);
        x.walk(1, 1, 1);
        palm("a scholar's nothing", x, 1, 9, 2, 8, 0, 1, -1);
        x.walk(2, 0, 1);
        palm("a child", x, 2, 8, 0, 6, 0, 0, -1);
        x.walk(3, 0, 0);
        palm("wax", x, 3, 9, 1, 7, 0, 0, 0);
        x.walk(4, 0, 0);
        palm("a fever's taste is not swapped", x, 4, 9, 0, 8, 0, 0, 0);
        PalmTastes y = Due.on("wall 0 0 0 0 30;reader plain 5 5 5 5 0;");
        for (int i = 0; i < 10; i++) y.walk(0, 0, 0);
        palm("9 at most, 0 at least", y, 0, 0, 0, 0, 0, 9, 4);
    }

    private static void rest() {
        PalmTastes x = Due.on("wall 9 0 0 0 0;reader plain 1 2 3 4 5;reader scholar 9 9 9 9 9;");
        due.is("a scholar rests", x.rest(1), 45);
        palm("rested", x, 1, 0, 0, 0, 0, 0, -1);
        x.walk(0, 0, 0);
        due.is("rest", x.rest(0), 12);
        palm("the other", x, 0, 0, 0, 0, 0, 0, -1);
        due.is("again", x.rest(0), 0);
        due.is("acts", x.count(4), 4);
        due.is("reader 2", x.rest(2), Due.BAD);
        due.is("reader -1", x.rest(-1), Due.BAD);
        due.is("acts yet", x.count(4), 4);
    }

    private static void undo() {
        PalmTastes x = Due.on("wall 5 6 7 8 30;wall 1 1 1 1 1;reader plain 1 2 3 4 5;reader child 0 0 0 0 0;");
        x.paint(0, 4, 9);
        x.day(2);
        x.walk(0, 0, 1);
        x.walk(1, 1, 0);
        x.rest(0);
        due.is("rest undone", x.undo(), 4);
        palm("as it walked", x, 0, 0, 0, 1, 2, 5, -1);
        due.is("walk undone", x.undo(), 3);
        palm("the child", x, 1, 0, 0, 0, 0, 0, -1);
        due.is("walk undone", x.undo(), 2);
        palm("as told", x, 0, 1, 2, 3, 4, 5, -1);
        due.is("the day yet", x.count(3), 1);
        due.is("day undone", x.undo(), 1);
        due.is("no day", x.count(3), 0);
        due.is("strong in all", x.count(5), 61);
        due.is("sour", x.wall(0, 2), 7);
        due.is("paint undone", x.undo(), 0);
        due.is("by which nothing became another", x.wall(0, 4), 30);
        due.is("none", x.undo(), Due.STATE);
        due.is("none again", x.undo(), Due.STATE);
        x.paint(1, 0, 3);
        x.undo();
        due.is("anew", x.paint(1, 0, 3), 4);
        due.is("anew undone", x.undo(), 0);
        due.is("as it was", x.wall(1, 0), 1);
    }

    private static void oldestForgotten() {
        PalmTastes x = Due.on("wall 0 0 0 0 0;reader plain 0 0 0 0 0;");
        for (int i = 1; i <= 24; i++) {
            x.paint(0, 0, 1);
            due.is("acts", x.count(4), i);
        }
        x.rest(0);
        x.walk(0, 0, 0);
        x.day(0);
        due.is("24 at most", x.count(4), 24);
        for (int i = 23; i >= 0; i--) due.is("undo", x.undo(), i);
        due.is("none", x.undo(), Due.STATE);
        due.is("the first three stay", x.wall(0, 0), 3);
        due.is("no day", x.count(3), 0);
        for (int i = 0; i < 30; i++) x.paint(0, 1, 1);
        for (int i = 0; i < 24; i++) x.undo();
        due.is("round once more", x.wall(0, 1), 6);
    }

    private static void wallAndReader() {
        PalmTastes x = Due.on("wall 1 2 3 4 5;wall 6 7 8 9 10;reader wax 1 2 3 4 5;reader fever 5 6 7 8 9;");
        for (int i = 0; i < 10; i++) due.is("wall", x.wall(i / 5, i % 5), i + 1);
        for (int i = 0; i < 10; i++) due.is("reader", x.reader(i / 5, i % 5), i < 5 ? i + 1 : i);
        due.is("wall 2", x.wall(2, 0), Due.BAD);
        due.is("wall -1", x.wall(-1, 4), Due.BAD);
        due.is("flavour 5", x.wall(0, 5), Due.BAD);
        due.is("flavour -1", x.wall(1, -1), Due.BAD);
        due.is("what 6", x.reader(0, 6), Due.BAD);
        due.is("what -1", x.reader(1, -1), Due.BAD);
        due.is("reader 2", x.reader(2, 0), Due.BAD);
        due.is("reader -1", x.reader(-1, 5), Due.BAD);
        due.is("reader of most", x.reader(Integer.MAX_VALUE, 5), Due.BAD);
        due.is("wall of least", x.wall(Integer.MIN_VALUE, 0), Due.BAD);
    }

    private static void felt() {
        PalmTastes x = Due.on("wall 10 0 5 6 7;wall 0 30 0 0 0;reader plain 1 0 4 6 9;reader child 1 0 4 6 9;"
            + "reader wax 1 0 4 1 3;reader fever 1 0 4 6 9;reader scholar 1 0 4 6 9;");
        int[][] felt = {{9, 0, 1, 0, 0}, {18, 0, 2, 0, 0}, {5, 0, 0, 1, 0}, {9, 0, 1, 0, 0}, {9, 0, 1, 0, 0}};
        for (int r = 0; r < 5; r++) {
            for (int f = 0; f < 5; f++) due.is("felt(" + r + ", 0, " + f + ")", x.felt(r, 0, f), felt[r][f]);
        }
        for (int r = 0; r < 5; r++) x.walk(r, 0, 0);
        int[] sweet = {6, 12, 2, 6, 7};
        int[] sour = {2, 4, 0, 2, 1};
        for (int r = 0; r < 5; r++) {
            due.is("2 less of " + r + "'s aftertaste", x.felt(r, 0, 0), sweet[r]);
            due.is("not of sour", x.felt(r, 0, 2), sour[r]);
        }
        due.is("0 at least", x.felt(1, 1, 0), 0);
        due.is("60 at most", x.felt(1, 1, 1), 60);
        due.is("reader 5", x.felt(5, 0, 0), Due.BAD);
        due.is("reader -1", x.felt(-1, 0, 0), Due.BAD);
        due.is("wall 2", x.felt(0, 2, 0), Due.BAD);
        due.is("wall -1", x.felt(0, -1, 0), Due.BAD);
        due.is("flavour 5", x.felt(0, 0, 5), Due.BAD);
        due.is("flavour -1", x.felt(0, 1, -1), Due.BAD);
        due.is("nothing is done", x.count(4), 5);
    }
}
