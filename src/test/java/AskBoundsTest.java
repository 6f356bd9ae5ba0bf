/** The sentences on images, kinds, asks, the trace, counts and status() that name a boundary case (promises 25 to 32). */
public final class AskBoundsTest {
    private static final String[] SORTS = {"plain", "child", "scholar", "wax", "fever"};
    private static final Due due = new Due();

    public static void main(String[] args) {
        twoImages();
        asItWasKept();
        noActThen();
        kinds();
        suchOnes();
        bodies();
        leastAndMost();
        emptyAheadOfIt();
        firstSixteen();
        howMany();
        latestFinding();
        noFinding();
        due.end("AskBoundsTest");
    }

    private static PalmTastes five(String palm) {
        StringBuilder text = new StringBuilder("wall 0 0 0 0 30;");
        for (String sort : SORTS) text.append("reader ").append(sort).append(palm).append(';');
        return Due.on(text.toString());
    }

    /** "An IMAGE (0, 1) is kept of the STREET: 1"; "STATE: none was kept": each is one of its own. */
    private static void twoImages() {
        for (int k = 0; k < 2; k++) {
            PalmTastes x = Due.on("wall 1 2 3 4 5;");
            due.is("image(" + k + ")", x.image(k), 1);
            due.is("the other was not kept", x.restore(1 - k), Due.STATE);
            x.paint(0, 0, 4);
            due.is("the other", x.image(1 - k), 1);
            x.paint(0, 0, 4);
            due.is("restore(" + k + ")", x.restore(k), 1);
            due.is("as it was", x.wall(0, 0), 1);
            due.is("the other", x.restore(1 - k), 1);
            due.is("as it was", x.wall(0, 0), 5);
            due.is("again", x.restore(k), 1);
            due.is("as it was", x.wall(0, 0), 1);
        }
        PalmTastes y = Due.on("wall 1 2 3 4 5;");
        due.is("image(-1)", y.image(-1), Due.BAD);
        due.is("image(2)", y.image(2), Due.BAD);
        due.is("restore(-1)", y.restore(-1), Due.BAD);
        due.is("restore(2)", y.restore(2), Due.BAD);
    }

    /** "The STREET is as an IMAGE kept it": also where it has more walls and readers, or fewer. */
    private static void asItWasKept() {
        PalmTastes x = Due.on("wall 30 0 0 0 0;".repeat(8) + "reader child 1 2 3 4 5;".repeat(5));
        x.walk(4, 0, 0);
        x.image(0);
        due.is("a smaller one", Due.street(x, "wall 0 0 0 0 1;reader wax 0 0 0 0 9;"), 1);
        x.image(1);
        for (int i = 0; i < 2; i++) {
            x.restore(0);
            due.is("walls", x.count(1), 8);
            due.is("readers", x.count(2), 5);
            due.is("the last one's kind", x.kind(4), 2);
            due.is("the last one's aftertaste", x.reader(4, 5), 0);
            due.is("the last one is used", x.reader(4, 4), 4);
            due.is("the one ahead of him", x.reader(3, 5), -1);
            due.is("strong in all", x.count(5), 240);
            x.walk(3, 0, 7);
            x.day(5);
            x.restore(1);
            due.is("walls", x.count(1), 1);
            due.is("readers", x.count(2), 1);
            due.is("no second wall", x.wall(1, 0), Due.BAD);
            due.is("no second reader", x.reader(1, 0), Due.BAD);
            due.is("strong in all", x.count(5), 1);
            due.is("his kind", x.kind(0), 4);
            x.rest(0);
            x.paint(0, 0, 30);
        }
    }

    /** "(no ACT can be undone then)" */
    private static void noActThen() {
        PalmTastes x = Due.on("wall 1 2 3 4 5;");
        x.day(0);
        x.image(0);
        due.is("an image is no act, forgets none", x.count(4), 1);
        for (int acts = 0; acts <= 25; acts += 5) {
            for (int i = 0; i < acts; i++) x.day(0);
            due.is("restore", x.restore(0), 1);
            due.is("acts", x.count(4), 0);
            due.is("undo", x.undo(), Due.STATE);
            due.is("days as it was kept", x.count(3), 1);
        }
        x.paint(0, 0, 3);
        due.is("of those since", x.undo(), 0);
        due.is("as it was kept", x.wall(0, 0), 0);
    }

    /** "The KIND of a READER, as told (1 to 5)" */
    private static void kinds() {
        PalmTastes x = five(" 0 0 0 0 0");
        for (int r = 0; r < 5; r++) due.is("kind(" + r + ")", x.kind(r), r + 1);
        due.is("kind(5)", x.kind(5), Due.BAD);
        due.is("kind(-1)", x.kind(-1), Due.BAD);
    }

    /** "A READER is taken as one of a KIND (0 .. 5): the READER's number. .. KIND: he is no such one." */
    private static void suchOnes() {
        String[] such = {"01", "012", "013", "04", "045"};
        PalmTastes x = five(" 0 0 0 0 0");
        for (int r = 0; r < 5; r++) {
            for (int kind = 0; kind < 6; kind++) {
                boolean is = such[r].indexOf('0' + kind) >= 0;
                due.is(SORTS[r] + " as " + kind, x.as(r, kind), is ? r : Due.KIND);
                due.is("its finding", x.status(), is ? 0 : 3);
            }
            due.is(SORTS[r] + " as -1", x.as(r, -1), Due.BAD);
            due.is(SORTS[r] + " as 6", x.as(r, 6), Due.BAD);
            due.is(SORTS[r] + " is what he is", x.kind(r), r + 1);
        }
    }

    private static void trace(String what, PalmTastes x, int... bodies) {
        for (int i = -1; i <= 17; i++) {
            due.is(what + ": trace(" + i + ")", x.trace(i), i >= 0 && i < bodies.length ? bodies[i] : Due.NONE);
        }
    }

    /** "each of which leaves its number in THE TRACE as it begins": of each kind, each ask. */
    private static void bodies() {
        int[][] sizes = {{11, 10, 21, 20}, {12, 11, 10, 24, 21, 20}, {11, 10, 22, 21, 20}, {13, 10}, {14, 13, 10}};
        int[][] marks = {{21, 20}, {24, 21, 20}, {22, 21, 20}, {23, 20, 13, 10}, {23, 20, 14, 13, 10}};
        PalmTastes x = five(" 1 2 3 4 5");
        int[] size = {15 - 1, -(15 + 0), 15 + 2 - 1 - 1000, 15 - 100, 2 * (15 - 100)};
        int[] mark = {-1, 0, 2 - 1 - 1000, 3 + 85, 4 + 170};
        for (int r = 0; r < 5; r++) {
            due.is("SIZE of " + SORTS[r], x.ask(r, 0), size[r]);
            trace("SIZE of " + SORTS[r], x, sizes[r]);
            due.is("MARK of " + SORTS[r], x.ask(r, 1), mark[r]);
            trace("MARK of " + SORTS[r], x, marks[r]);
        }
    }

    /** "all that he is USED, added" (0 to 45), "his number" (0 to 4), "his AFTERTASTE (-1: none)" (to 4). */
    private static void leastAndMost() {
        for (int used = 0; used <= 9; used += 9) {
            PalmTastes x = five((" " + used).repeat(5));
            int sum = 5 * used;
            int[] size = {sum + 0 - 1, -(sum + 2 * (1 - 1)), sum + 2 - 1 - 1000, sum - 100, 2 * (sum - 100)};
            for (int r = 0; r < 5; r++) due.is("SIZE of " + SORTS[r] + " used by " + sum, x.ask(r, 0), size[r]);
            for (int r = 0; r < 5; r++) x.walk(r, 0, 0);
            int then = used == 0 ? 1 : 4 * 8 + 9;
            int[] after = {then + 0 + 4, -(then + 2 * (1 + 4)), sum + 2 + 4 - 1000, then - 100, 2 * (then - 100)};
            int[] mark = {0 + 4, 2 * (1 + 4), 2 + 4 - 1000, 3 - after[3], 4 - after[4]};
            for (int r = 0; r < 5; r++) {
                due.is("SIZE of " + SORTS[r] + ", clove behind it", x.ask(r, 0), after[r]);
                due.is("MARK of " + SORTS[r] + ", clove behind it", x.ask(r, 1), mark[r]);
            }
        }
        for (int number = 0; number < 5; number++) {
            PalmTastes x = Due.on("wall 9 0 0 0 0;" + "reader fever 0 0 0 0 0;".repeat(number) + "reader plain 0 0 0 0 0;");
            due.is("number " + number + ", no aftertaste", x.ask(number, 1), number - 1);
            x.walk(number, 0, 0);
            due.is("number " + number + ", sweet", x.ask(number, 1), number);
        }
    }

    /** "THE TRACE is empty ahead of it (where that is refused it stays)" */
    private static void emptyAheadOfIt() {
        PalmTastes x = new PalmTastes();
        trace("a new object", x);
        due.is("no reader", x.ask(0, 0), Due.BAD);
        trace("a new object, refused", x);
        x = five(" 0 0 0 0 0");
        trace("a street", x);
        x.ask(1, 0);
        trace("the longest", x, 12, 11, 10, 24, 21, 20);
        x.ask(3, 0);
        trace("the shortest behind it", x, 13, 10);
        for (int[] refused : new int[][] {{5, 0}, {-1, 0}, {0, 2}, {0, -1}, {5, 2}}) {
            due.is("refused", x.ask(refused[0], refused[1]), Due.BAD);
            trace("stays", x, 13, 10);
        }
        x.walk(0, 0, 0);
        x.undo();
        x.image(0);
        x.restore(0);
        x.kind(1);
        x.as(1, 2);
        x.street();
        trace("stays behind other calls", x, 13, 10);
    }

    /** "(the first 16)": no ask leaves more than 6, so that none is left out; none is told beyond. */
    private static void firstSixteen() {
        PalmTastes x = five(" 0 0 0 0 0");
        for (int i = 0; i < 20; i++) x.ask(1, 0);
        trace("asked twenty times", x, 12, 11, 10, 24, 21, 20);
        due.is("trace(6)", x.trace(6), Due.NONE);
        due.is("trace(15)", x.trace(15), Due.NONE);
        due.is("trace(16)", x.trace(16), Due.NONE);
        due.is("trace of most", x.trace(Integer.MAX_VALUE), Due.NONE);
        due.is("trace of least", x.trace(Integer.MIN_VALUE), Due.NONE);
    }

    /** "How many: 0 ROWS, 1 WALLS, 2 READERS, 3 DAYS gone, 4 ACTS .., 5 how strong all is, added, 6 bytes on the tape": least, most. */
    private static void howMany() {
        PalmTastes x = new PalmTastes();
        for (int what = 0; what < 7; what++) due.is("new count(" + what + ")", x.count(what), 0);
        Due.street(x, "wall 30 30 30 30 30;".repeat(8) + "reader wax 0 0 0 0 0;".repeat(5));
        for (int row = 0; row < 8; row++) x.row(row, 0, 0);
        for (int i = 0; i < 25; i++) x.rest(0);
        Due.feed(x, " ".repeat(400));
        int[] most = {8, 8, 5, 0, 24, 1200, 400};
        for (int what = 0; what < 7; what++) due.is("count(" + what + ")", x.count(what), most[what]);
        for (int i = 0; i < 30; i++) x.day(5);
        due.is("days", x.count(3), 30);
        due.is("strong in all", x.count(5), 0);
        due.is("acts", x.count(4), 24);
        for (int row = 0; row < 8; row++) {
            x.drop(row);
            due.is("rows", x.count(0), 7 - row);
        }
        due.is("count(-1)", x.count(-1), Due.BAD);
        due.is("count(7)", x.count(7), Due.BAD);
    }

    /** "Of the latest call with a ROW, or as(), that was not BAD, STATE, FULL: the number of its FINDING" */
    private static void latestFinding() {
        PalmTastes x = Due.on("wall 9 0 0 0 0;wall 0 0 0 0 0;reader plain 0 0 0 0 0;");
        x.row(0, 0, 1);
        x.row(1, 1, 1);
        due.is("SIZE", x.row(2, 0, -1), Due.SIZE);
        due.is("4", x.status(), 4);
        due.is("NULL", x.forged(3, 0), Due.NULL);
        due.is("1", x.status(), 1);
        due.is("PLACE", x.wrong(0, 0, 1, 0), Due.PLACE);
        due.is("2", x.status(), 2);
        due.is("KIND", x.as(0, 2), Due.KIND);
        due.is("3", x.status(), 3);
        due.is("STORE", x.copy(0, 0, 1, 0, 1), Due.STORE);
        due.is("5", x.status(), 5);
        due.is("NULL", x.spice(0, 0, 0, 3, 0), Due.NULL);
        due.is("1", x.status(), 1);
        due.is("PLACE", x.both(0, 0, 1, 0), Due.PLACE);
        due.is("2", x.status(), 2);
        due.is("NULL", x.drop(3), Due.NULL);
        due.is("1", x.status(), 1);
        due.is("asked again", x.status(), 1);
        // Neither a refusal nor a call without a row is looked at.
        x.row(8, 0, 1);
        x.wrong(0, 0, 9, 0);
        x.as(0, 6);
        x.image(0);
        x.restore(1);
        x.read(0, 0, 1, 5);
        x.kind(0);
        Due.street(x, "wall 31");
        Due.street(x, "wall 1 1 1 1 1;");
        due.is("1 yet", x.status(), 1);
        PalmTastes y = new PalmTastes();
        y.row(0, 0, -1);
        due.is("no street", y.forged(0, 0), Due.STATE);
        due.is("4 yet", y.status(), 4);
    }

    /** "0: it had none, or there was none": each call with a row, and as(), behind a finding. */
    private static void noFinding() {
        due.is("there was none", new PalmTastes().status(), 0);
        PalmTastes x = Due.on("wall 9 0 0 0 0;wall 30 0 0 0 0;reader plain 0 0 0 0 0;");
        Due.row(x, 0, 1, 1, 1);
        for (int call = 0; call < 9; call++) {
            x.drop(7);
            due.is("a finding", x.status(), 1);
            int answer = 0;
            switch (call) {
                case 0: answer = x.row(1, 0, 0); break;
                case 1: answer = x.set(0, 2, 1); break;
                case 2: answer = x.copy(0, 0, 0, 1, 0); break;
                case 3: answer = x.drop(1); break;
                case 4: answer = x.wrong(0, 0, 1, 0); break;
                case 5: answer = x.spice(0, 0, 1, 0, 0); break;
                case 6: answer = x.both(0, 0, 1, 0); break;
                case 7: answer = x.forged(0, 0); break;
                default: answer = x.as(0, 1); break;
            }
            int[] answers = {0, 1, 0, 0, 0, Due.NONE, Due.NONE, 0, 0};
            due.is("call " + call, answer, answers[call]);
            due.is("no finding of call " + call, x.status(), 0);
        }
    }
}
