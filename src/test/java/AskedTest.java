/** Promises 27 to 32: kinds, asks by bodies, the trace, counts, status. */
public final class AskedTest {
    private static final String STREET = "wall 9 0 0 0 0;reader plain 1 2 3 4 5;reader child 1 1 1 1 1;reader wax 0 0 0 0 7;"
        + "reader fever 2 2 2 2 2;reader scholar 9 9 9 9 9;";
    private static final Due due = new Due();

    public static void main(String[] args) {
        kinds();
        asks();
        asksBehindWalks();
        refused();
        counts();
        due.end("AskedTest");
    }

    private static void kinds() {
        PalmTastes x = Due.on(STREET);
        int[] kinds = {1, 2, 4, 5, 3};
        String[] is = {"110000", "111000", "100010", "100011", "110100"};
        for (int r = 0; r < 5; r++) {
            due.is("kind(" + r + ")", x.kind(r), kinds[r]);
            for (int k = 0; k < 6; k++) {
                boolean he = is[r].charAt(k) == '1';
                due.is("as(" + r + ", " + k + ")", x.as(r, k), he ? r : Due.KIND);
                due.is("status()", x.status(), he ? 0 : 3);
            }
        }
        due.is("kind(5)", x.kind(5), Due.BAD);
        due.is("kind(-1)", x.kind(-1), Due.BAD);
        due.is("as(5, 0)", x.as(5, 0), Due.BAD);
        due.is("as(-1, 0)", x.as(-1, 0), Due.BAD);
        due.is("as(0, 6)", x.as(0, 6), Due.BAD);
        due.is("as(0, -1)", x.as(0, -1), Due.BAD);
        due.is("as of most", x.as(0, Integer.MAX_VALUE), Due.BAD);
    }

    private static void trace(PalmTastes x, int... bodies) {
        for (int i = 0; i < bodies.length; i++) due.is("trace(" + i + ")", x.trace(i), bodies[i]);
        due.is("trace(" + bodies.length + ")", x.trace(bodies.length), Due.NONE);
    }

    private static void asks() {
        PalmTastes x = Due.on(STREET);
        due.is("SIZE of plain", x.ask(0, 0), 15 + 0 - 1);
        trace(x, 11, 10, 21, 20);
        due.is("MARK of plain", x.ask(0, 1), -1);
        trace(x, 21, 20);
        due.is("SIZE of a child", x.ask(1, 0), -(5 + 0));
        trace(x, 12, 11, 10, 24, 21, 20);
        due.is("MARK of a child", x.ask(1, 1), 0);
        trace(x, 24, 21, 20);
        due.is("SIZE of wax", x.ask(2, 0), -93);
        trace(x, 13, 10);
        due.is("MARK of wax", x.ask(2, 1), 2 + 93);
        trace(x, 23, 20, 13, 10);
        due.is("SIZE of a fever", x.ask(3, 0), -180);
        trace(x, 14, 13, 10);
        due.is("MARK of a fever", x.ask(3, 1), 3 + 180);
        trace(x, 23, 20, 14, 13, 10);
        due.is("SIZE of a scholar", x.ask(4, 0), 45 + 4 - 1 - 1000);
        trace(x, 11, 10, 22, 21, 20);
        due.is("MARK of a scholar", x.ask(4, 1), 4 - 1 - 1000);
        trace(x, 22, 21, 20);
        due.is("trace(-1)", x.trace(-1), Due.NONE);
        due.is("trace(16)", x.trace(16), Due.NONE);
        due.is("trace of most", x.trace(Integer.MAX_VALUE), Due.NONE);
        due.is("trace of least", x.trace(Integer.MIN_VALUE), Due.NONE);
        due.is("an ask is no act", x.count(4), 0);
    }

    private static void asksBehindWalks() {
        PalmTastes x = Due.on("wall 0 0 0 0 30;wall 30 0 0 0 0;reader scholar 0 0 0 0 0;reader child 0 0 0 0 0;reader plain 5 0 0 0 0;");
        for (int r = 0; r < 3; r++) x.walk(r, 0, 0);
        due.is("MARK of a scholar", x.ask(0, 1), 0 + 4 - 1000);
        due.is("SIZE of a scholar", x.ask(0, 0), 0 + 4 - 1000);
        due.is("MARK of a child", x.ask(1, 1), 2 * (1 + 4));
        due.is("SIZE of a child", x.ask(1, 0), -(1 + 10));
        due.is("SIZE of plain", x.ask(2, 0), 5 + 2 + 4);
    }

    private static void refused() {
        PalmTastes x = Due.on(STREET);
        x.ask(2, 1);
        due.is("reader 5", x.ask(5, 0), Due.BAD);
        due.is("reader -1", x.ask(-1, 0), Due.BAD);
        due.is("what 2", x.ask(0, 2), Due.BAD);
        due.is("what -1", x.ask(0, -1), Due.BAD);
        trace(x, 23, 20, 13, 10);
        Due.street(x, "wall 0 0 0 0 0;");
        trace(x, 23, 20, 13, 10);
    }

    private static void counts() {
        PalmTastes x = Due.on("wall 1 2 3 4 5;wall 30 30 30 30 30;reader wax 1 2 3 4 5;");
        x.row(1, 0, 0);
        x.row(7, 2, 40);
        x.day(0);
        x.day(0);
        x.rest(0);
        Due.feed(x, "wall reader");
        int[] counts = {2, 2, 1, 2, 3, (2 + 3) + (28 * 4 + 24), 11};
        for (int what = 0; what < 7; what++) due.is("count(" + what + ")", x.count(what), counts[what]);
        due.is("count(7)", x.count(7), Due.BAD);
        due.is("count(-1)", x.count(-1), Due.BAD);
        due.is("count of most", x.count(Integer.MAX_VALUE), Due.BAD);
    }
}
