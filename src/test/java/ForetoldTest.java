/** Promises 17 to 26: what is foretold, and images. */
public final class ForetoldTest {
    private static final Due due = new Due();

    public static void main(String[] args) {
        read();
        wrong();
        often();
        oftenAtLast();
        spice();
        spiceRefused();
        both();
        order();
        written();
        forged();
        images();
        nothingChanges();
        due.end("ForetoldTest");
    }

    private static void read() {
        PalmTastes x = Due.on("wall 9 8 0 0 0;wall 9 8 0 0 0;wall 0 0 0 0 0;wall 0 0 3 0 3;"
            + "reader plain 0 0 0 0 0;reader fever 0 0 0 0 0;");
        int[] up = {0, 1, -1, 2};
        int[] down = {2, -1, 0, 1};
        for (int k = 0; k < 4; k++) {
            due.is("read up " + k, x.read(0, 0, 3, k), up[k]);
            due.is("read down " + k, x.read(0, 3, 0, k), down[k]);
        }
        int[] fever = {1, 0, -1, 2};
        for (int k = 0; k < 4; k++) due.is("a fever reads " + k, x.read(1, 0, 3, k), fever[k]);
        due.is("not so many", x.read(0, 0, 3, 4), Due.NONE);
        due.is("not so many at one", x.read(0, 2, 2, 1), Due.NONE);
        due.is("most", x.read(0, 0, 3, Integer.MAX_VALUE), Due.NONE);
        due.is("k -1", x.read(0, 0, 3, -1), Due.BAD);
        due.is("reader 2", x.read(2, 0, 3, 0), Due.BAD);
        due.is("from 4", x.read(0, 4, 3, 0), Due.BAD);
        due.is("to -1", x.read(0, 0, -1, 9), Due.BAD);
    }

    private static void wrong() {
        PalmTastes x = Due.on("wall 9 8 0 0 0;wall 9 8 0 0 0;wall 0 0 0 0 0;reader plain 0 0 0 0 0;reader fever 0 0 0 0 0;");
        Due.row(x, 0, 0, 1, -1, 7);
        due.is("right all along", x.wrong(0, 0, 2, 0), Due.NONE);
        due.is("of a fever the first", x.wrong(1, 0, 2, 0), 0);
        due.is("down, by its place", x.wrong(0, 2, 0, 0), 0);
        Due.row(x, 1, -1, 0, 0);
        due.is("down, the last", x.wrong(0, 2, 0, 1), 2);
        due.is("as many as walls", x.wrong(0, 1, 0, 0), Due.NONE);
        x.row(2, 0, 2);
        due.is("PLACE", x.wrong(0, 0, 2, 2), Due.PLACE);
        due.is("status", x.status(), 2);
        due.is("NULL", x.wrong(0, 0, 2, 3), Due.NULL);
        due.is("status", x.status(), 1);
        due.is("BAD ahead of NULL", x.wrong(2, 0, 2, 3), Due.BAD);
        due.is("wall ahead of NULL", x.wrong(0, 0, 3, 3), Due.BAD);
        due.is("row 8", x.wrong(0, 0, 2, 8), Due.BAD);
        due.is("row -1", x.wrong(0, 0, 2, -1), Due.BAD);
        due.is("status of BAD", x.status(), 1);
        x.set(0, 2, 5);
        due.is("an item of 5, behind a wrong one", x.wrong(1, 0, 2, 0), Due.BAD);
        due.is("BAD leaves status", x.status(), 0);
        x.set(0, 2, -2);
        due.is("an item of -2", x.wrong(0, 0, 2, 0), Due.BAD);
        due.is("beyond the walk", x.wrong(0, 0, 1, 0), Due.NONE);
        x.set(2, 0, 9);
        due.is("PLACE ahead of an item", x.wrong(0, 0, 2, 2), Due.PLACE);
        x.wrong(0, 0, 1, 0);
        due.is("status of NONE", x.status(), 0);
    }

    private static void often() {
        PalmTastes x = Due.on("wall 20 14 0 0 0;wall 0 0 9 0 0;reader plain 0 0 0 0 0;reader scholar 0 0 0 0 0;");
        due.is("one wall: 14 and 14 at the fifth, 13 at the sixth", x.often(0, 0, 0), 6);
        due.is("a scholar: 18 yet", x.often(1, 0, 0), Due.NONE);
        due.is("both walls", x.often(0, 0, 1), Due.NONE);
        due.is("reader 2", x.often(2, 0, 0), Due.BAD);
        due.is("from 2", x.often(0, 2, 0), Due.BAD);
        due.is("to -1", x.often(0, 0, -1), Due.BAD);
        due.is("nothing changes", x.reader(0, 0), 0);
        PalmTastes y = Due.on("wall 0 0 0 0 10;reader plain 0 0 0 0 9;reader wax 0 0 0 0 0;");
        due.is("nothing from the second on", y.often(0, 0, 0), 2);
        due.is("wax", y.often(1, 0, 0), 5);
    }

    /** He tastes nothing until he is used to salt so much less; a palm settles by the tenth walk, so none comes later. */
    private static void oftenAtLast() {
        for (int salt = 1; salt <= 9; salt++) {
            String wall = "wall 0 0 0 " + salt + " 0;";
            due.is("salt " + salt, Due.on(wall + "reader plain 0 0 0 9 0;").often(0, 0, 0), 11 - salt);
            due.is("a scholar, salt " + salt, Due.on(wall + "reader scholar 0 0 0 9 0;").often(0, 0, 0), Due.NONE);
        }
        due.is("none tasted ever", Due.on("wall 0 0 0 0 0;reader plain 0 0 0 9 0;").often(0, 0, 0), Due.NONE);
    }

    private static void spice() {
        PalmTastes x = Due.on("wall 5 6 0 0 0;wall 5 6 0 0 0;wall 0 0 0 0 0;"
            + "reader plain 0 0 0 0 0;reader fever 0 0 0 0 0;reader child 0 0 0 0 0;reader wax 0 0 0 0 0;");
        Due.row(x, 0, 0, 0, 4);
        int[] plain = {1, 4, 1};
        int[] fever = {0, 3, 1};
        int[] wax = {1, 4, 5};
        for (int k = 0; k < 3; k++) {
            due.is("plain " + k, x.spice(0, 0, 2, 0, k), plain[k]);
            due.is("fever " + k, x.spice(1, 0, 2, 0, k), fever[k]);
            due.is("child " + k, x.spice(2, 0, 2, 0, k), plain[k]);
            due.is("wax " + k, x.spice(3, 0, 2, 0, k), wax[k]);
        }
        due.is("in all", x.spice(0, 0, 2, 0, -1), 6);
        due.is("in all of a fever", x.spice(1, 0, 2, 0, -1), 4);
        due.is("not so many", x.spice(0, 0, 2, 0, 3), Due.NONE);
        due.is("most", x.spice(0, 0, 2, 0, Integer.MAX_VALUE), Due.NONE);
        Due.row(x, 0, 4, 0, 0);
        due.is("down", x.spice(0, 2, 0, 0, -1), 6);
        due.is("down, the first", x.spice(0, 2, 0, 0, 0), 1);
        due.is("down, the last", x.spice(0, 2, 0, 0, 2), 4);
        PalmTastes y = Due.on("wall 0 7 0 0 0;wall 30 0 0 0 29;wall 30 0 0 0 0;reader plain 0 0 0 0 0;reader plain 0 0 0 9 0;");
        Due.row(y, 0, 2);
        due.is("one more than an earlier flavour", y.spice(0, 0, 0, 0, 0), 8);
        Due.row(y, 0, 0);
        due.is("as much as a later one", y.spice(0, 0, 0, 0, 0), 7);
        Due.row(y, 0, 4, 4);
        due.is("31 cannot be", y.spice(0, 1, 2, 0, -1), Due.NONE);
        Due.row(y, 0, 0, 3);
        due.is("30 can, behind sweet", y.spice(0, 1, 2, 0, 1), 28);
        due.is("but not by one who is used to salt", y.spice(1, 1, 2, 0, 1), Due.NONE);
        due.is("nor at the wall ahead of it", y.spice(1, 1, 2, 0, 0), Due.NONE);
        due.is("nor in all", y.spice(1, 1, 2, 0, -1), Due.NONE);
        due.is("status of NONE", y.status(), 0);
    }

    private static void spiceRefused() {
        PalmTastes x = Due.on("wall 0 0 0 0 0;wall 0 0 0 0 0;reader plain 0 0 0 0 0;");
        Due.row(x, 0, 0, -1);
        x.row(1, 0, 1);
        due.is("an item of -1", x.spice(0, 0, 1, 0, 0), Due.BAD);
        due.is("an item of -1, k beyond", x.spice(0, 0, 1, 0, 2), Due.BAD);
        due.is("one wall alone", x.spice(0, 0, 0, 0, 0), 1);
        x.set(0, 0, 5);
        due.is("an item of 5", x.spice(0, 0, 0, 0, -1), Due.BAD);
        due.is("PLACE", x.spice(0, 0, 1, 1, 5), Due.PLACE);
        due.is("NULL", x.spice(0, 0, 1, 2, 5), Due.NULL);
        due.is("k -2, ahead of NULL", x.spice(0, 0, 1, 2, -2), Due.BAD);
        due.is("row 8", x.spice(0, 0, 1, 8, 0), Due.BAD);
        due.is("row -1", x.spice(0, 0, 1, -1, 0), Due.BAD);
        due.is("reader 1", x.spice(1, 0, 1, 2, 0), Due.BAD);
        due.is("from 2", x.spice(0, 2, 1, 2, 0), Due.BAD);
        due.is("to -1", x.spice(0, 0, -1, 2, 0), Due.BAD);
        due.is("status", x.status(), 1);
    }

    private static void both() {
        PalmTastes x = Due.on("wall 9 0 0 0 0;wall 0 9 0 0 0;wall 9 9 0 0 0;reader plain 0 0 0 0 0;reader fever 0 0 0 0 0;");
        // Up: sweet 9; sweet, used 1 and 2 less, over bitter 9: 12; bitter 9 over sweet 9 - 2 - 2: 0.
        // Back: bitter 9 over sweet 9: 1; sweet over bitter 9 - 1 - 2: 6; sweet 9 over none: 0.
        Due.row(x, 0, 0, 0, 1);
        int up = x.spice(0, 0, 2, 0, -1);
        int[] there = new int[3];
        for (int k = 0; k < 3; k++) there[k] = x.spice(0, 0, 2, 0, k);
        due.is("there 0", there[0], 0);
        due.is("there 1", there[1], 12);
        due.is("there 2", there[2], 0);
        due.is("there in all", up, 12);
        Due.row(x, 1, 1, 0, 0);
        int[] back = new int[3];
        for (int k = 0; k < 3; k++) back[k] = x.spice(0, 2, 0, 1, k);
        due.is("back at wall 2", back[0], 1);
        due.is("back at wall 1", back[1], 6);
        due.is("back at wall 0", back[2], 0);
        due.is("both", x.both(0, 0, 2, 0), 13);
        due.is("both, from the other end", x.both(0, 2, 0, 1), 13);
        due.is("one wall", x.both(0, 2, 2, 1), 1);
        PalmTastes y = Due.on("wall 30 29 0 0 0;wall 30 30 0 0 0;reader plain 0 0 0 0 0;");
        Due.row(y, 0, 0, 1);
        due.is("there", y.spice(0, 0, 1, 0, -1), 0);
        due.is("none back", y.both(0, 0, 1, 0), Due.NONE);
        Due.row(y, 0, 1, 0);
        due.is("none there", y.both(0, 1, 0, 0), Due.NONE);
        due.is("status of NONE", y.status(), 0);
        due.is("PLACE", y.both(0, 0, 0, 1), Due.NULL);
        y.row(1, 0, 1);
        due.is("PLACE", y.both(0, 0, 1, 1), Due.PLACE);
        due.is("status", y.status(), 2);
        y.set(1, 0, -1);
        due.is("an item of -1", y.both(0, 0, 0, 1), Due.BAD);
        y.set(1, 0, 5);
        due.is("an item of 5", y.both(0, 0, 0, 1), Due.BAD);
        due.is("row 8", y.both(0, 0, 0, 8), Due.BAD);
        due.is("row -1", y.both(0, 0, 0, -1), Due.BAD);
        due.is("reader 1, ahead of NULL", y.both(1, 0, 0, 5), Due.BAD);
        due.is("from 2, ahead of NULL", y.both(0, 2, 0, 5), Due.BAD);
        due.is("to -1, ahead of NULL", y.both(0, 0, -1, 5), Due.BAD);
        due.is("status, yet of set()", y.status(), 0);
    }

    private static void orderIs(String what, PalmTastes x, int reader, int strong, int... order) {
        for (int k = 0; k < 5; k++) due.is(what + ", " + k, x.order(reader, strong, k), order[k]);
    }

    private static void order() {
        PalmTastes x = Due.on("wall 9 0 0 0 0;reader plain 3 0 2 1 0;reader scholar 3 0 2 1 0;reader wax 0 0 0 0 0;"
            + "reader fever 1 2 3 4 5;reader child 9 9 9 9 9;");
        orderIs("he is used to them less on the way", x, 0, 1, 1, 3, 2, 0, 4);
        orderIs("a little stronger", x, 0, 3, 1, 0, 2, 3, 4);
        orderIs("strong enough", x, 0, 4, 0, 1, 2, 3, 4);
        orderIs("a scholar stays used", x, 1, 3, Due.NONE, Due.NONE, Due.NONE, Due.NONE, Due.NONE);
        orderIs("a scholar, stronger", x, 1, 4, 0, 1, 2, 3, 4);
        orderIs("wax", x, 2, 4, Due.NONE, Due.NONE, Due.NONE, Due.NONE, Due.NONE);
        orderIs("wax, stronger", x, 2, 5, 0, 1, 2, 3, 4);
        orderIs("a fever: flavours as tasted", x, 3, 2, 0, 1, 2, 3, 4);
        orderIs("none to begin with", x, 3, 1, Due.NONE, Due.NONE, Due.NONE, Due.NONE, Due.NONE);
        orderIs("a child", x, 4, 10, 0, 1, 2, 3, 4);
        orderIs("a child of 9", x, 4, 9, Due.NONE, Due.NONE, Due.NONE, Due.NONE, Due.NONE);
        x.rest(0);
        x.walk(0, 0, 0);
        orderIs("the aftertaste comes later", x, 0, 1, 1, 0, 2, 3, 4);
        x.rest(1);
        x.walk(1, 0, 0);
        orderIs("a scholar's too", x, 1, 2, 1, 0, 2, 3, 4);
        due.is("strength 0", x.order(0, 0, 0), Due.BAD);
        due.is("strength 31", x.order(0, 31, 0), Due.BAD);
        due.is("strength 30", x.order(4, 30, 4), 4);
        due.is("k 5", x.order(0, 9, 5), Due.BAD);
        due.is("k -1", x.order(0, 9, -1), Due.BAD);
        due.is("reader 5", x.order(5, 9, 0), Due.BAD);
        due.is("reader -1", x.order(-1, 9, 0), Due.BAD);
    }

    private static void written(PalmTastes x, int flavour, int days, int least, int most) {
        String call = "written(0, " + flavour + ", " + days + ", ";
        due.is(call + "0)", x.written(0, flavour, days, 0), least);
        due.is(call + "1)", x.written(0, flavour, days, 1), most);
    }

    private static void written() {
        PalmTastes x = Due.on("wall 10 0 12 30 1;wall 0 0 0 0 0;");
        written(x, 0, 0, 10, 10);
        written(x, 0, 20, 30, 30);
        written(x, 1, 0, 0, 0);
        written(x, 1, 1, 0, 1);
        written(x, 1, 20, 0, 20);
        written(x, 2, 1, 15, 15);
        written(x, 2, 6, 30, 30);
        written(x, 2, 7, Due.NONE, Due.NONE);
        written(x, 3, 0, 30, 30);
        written(x, 3, 1, Due.NONE, Due.NONE);
        written(x, 4, 20, 21, 21);
        due.is("sour gone a day ago", x.written(1, 2, 1, 1), 3);
        due.is("sour gone 10 days ago", x.written(1, 2, 10, 1), 30);
        due.is("sour gone 11 days ago", x.written(1, 2, 11, 1), 30);
        due.is("at least", x.written(1, 2, 20, 0), 0);
        due.is("days 21", x.written(0, 0, 21, 0), Due.BAD);
        due.is("days -1", x.written(0, 0, -1, 0), Due.BAD);
        due.is("what 2", x.written(0, 0, 0, 2), Due.BAD);
        due.is("what -1", x.written(0, 0, 0, -1), Due.BAD);
        due.is("wall 2", x.written(2, 0, 0, 0), Due.BAD);
        due.is("wall -1", x.written(-1, 0, 0, 0), Due.BAD);
        due.is("flavour 5", x.written(0, 5, 0, 0), Due.BAD);
        due.is("flavour -1", x.written(1, -1, 0, 0), Due.BAD);
    }

    private static void forged() {
        PalmTastes x = Due.on("wall 30 30 30 30 30;wall 0 0 28 0 0;wall 0 0 27 0 0;wall 30 30 0 30 30;wall 0 0 1 0 0;");
        Due.row(x, 0, 0, 1, 1, 99, 10, 9, 10);
        due.is("from 0", x.forged(0, 0), 2 + 16);
        due.is("from 1: 1 1 99 10 9", x.forged(0, 1), 1 + 2 + 4);
        due.is("from 2: 1 99 10 9 10", x.forged(0, 2), 1 + 2 + 4 + 16);
        due.is("from 3", x.forged(0, 3), Due.PLACE);
        due.is("status", x.status(), 2);
        due.is("from -1", x.forged(0, -1), Due.PLACE);
        due.is("from most", x.forged(0, Integer.MAX_VALUE), Due.PLACE);
        due.is("missing", x.forged(1, 0), Due.NULL);
        due.is("row 8", x.forged(8, 0), Due.BAD);
        due.is("row -1", x.forged(-1, 0), Due.BAD);
        due.is("status", x.status(), 1);
        x.set(0, 6, 100);
        due.is("an item of 100", x.forged(0, 2), Due.BAD);
        due.is("BAD leaves status", x.status(), 0);
        due.is("which is not told", x.forged(0, 1), 7);
        x.set(0, 6, -1);
        due.is("an item of -1", x.forged(0, 2), Due.BAD);
        due.is("PLACE ahead of an item", x.forged(0, 3), Due.PLACE);
        x.forged(0, 0);
        due.is("status of an answer", x.status(), 0);
        PalmTastes y = new PalmTastes();
        due.is("STATE ahead of BAD", y.forged(8, 0), Due.STATE);
        due.is("STATE ahead of NULL", y.forged(0, 0), Due.STATE);
        PalmTastes z = Due.on("wall 0 0 30 0 0;".repeat(8));
        Due.row(z, 0, 1, 1, 1, 1, 1, 1, 1, 0);
        due.is("eight walls", z.forged(0, 0), 127);
        due.is("eight walls, seven items", z.forged(0, 1), Due.PLACE);
    }

    private static void images() {
        PalmTastes x = new PalmTastes();
        due.is("image(0), no street", x.image(0), Due.STATE);
        due.is("image(2)", x.image(2), Due.BAD);
        due.is("image(-1)", x.image(-1), Due.BAD);
        due.is("restore(0), none", x.restore(0), Due.STATE);
        due.is("restore(2)", x.restore(2), Due.BAD);
        due.is("restore(-1)", x.restore(-1), Due.BAD);
        Due.street(x, "wall 9 8 7 6 5;wall 1 1 1 1 1;reader child 1 0 0 0 0;reader scholar 0 0 0 0 2;");
        x.row(0, 0, 3);
        x.day(1);
        x.walk(0, 0, 0);
        due.is("image(1)", x.image(1), 1);
        due.is("acts stay", x.count(4), 2);
        due.is("none in 0", x.restore(0), Due.STATE);
        x.day(0);
        x.paint(1, 2, 20);
        x.rest(0);
        due.is("image(0)", x.image(0), 1);
        Due.street(x, "wall 2 0 0 0 0;reader wax 0 0 0 0 0;");
        x.day(0);
        Due.feed(x, "wa");
        x.ask(0, 1);
        due.is("restore(1)", x.restore(1), 1);
        due.is("walls", x.count(1), 2);
        due.is("readers", x.count(2), 2);
        due.is("days", x.count(3), 1);
        due.is("acts", x.count(4), 0);
        due.is("strong in all", x.count(5), 7 + 6 + 3 + 4 + 3);
        due.is("tape", x.count(6), 2);
        due.is("rows", x.count(0), 1);
        due.is("the trace", x.trace(0), 23);
        due.is("no act", x.undo(), Due.STATE);
        due.is("kind of 0", x.kind(0), 2);
        due.is("kind of 1", x.kind(1), 3);
        due.is("used", x.reader(0, 0), 2);
        due.is("aftertaste", x.reader(0, 5), 0);
        x.paint(0, 0, 20);
        x.walk(1, 0, 1);
        due.is("again", x.restore(1), 1);
        due.is("as it was kept", x.count(5), 23);
        due.is("no aftertaste of 1", x.reader(1, 5), -1);
        due.is("the other", x.restore(0), 1);
        due.is("its days", x.count(3), 2);
        due.is("its paint", x.wall(1, 2), 20);
        due.is("its palm", x.reader(0, 5), -1);
        due.is("kept anew", x.image(1), 1);
        x.day(5);
        x.restore(1);
        due.is("is the latest", x.wall(1, 2), 20);
    }

    private static void nothingChanges() {
        PalmTastes x = Due.on("wall 9 8 7 6 5;wall 5 5 5 5 6;reader child 1 0 0 0 0;reader plain 0 0 0 0 2;");
        Due.row(x, 0, 1, 2);
        x.walk(0, 0, 1);
        int[] before = new int[24];
        for (int i = 0; i < 12; i++) before[i] = x.reader(i / 6, i % 6);
        for (int i = 0; i < 10; i++) before[12 + i] = x.wall(i / 5, i % 5);
        for (int reader = 0; reader < 2; reader++) {
            x.read(reader, 0, 1, 1);
            x.wrong(reader, 0, 1, 0);
            x.often(reader, 1, 0);
            x.spice(reader, 0, 1, 0, -1);
            x.both(reader, 0, 1, 0);
            x.order(reader, 20, 3);
            x.written(0, 1, 2, 1);
            x.forged(0, 0);
        }
        for (int i = 0; i < 12; i++) due.is("palm " + i, x.reader(i / 6, i % 6), before[i]);
        for (int i = 0; i < 10; i++) due.is("wall " + i, x.wall(i / 5, i % 5), before[12 + i]);
        due.is("acts", x.count(4), 1);
        due.is("days", x.count(3), 0);
    }
}
