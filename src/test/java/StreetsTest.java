/** Promises 6 to 8: the tape, streets that are read, faults. */
public final class StreetsTest {
    private static final String W = "wall 0 0 0 0 0;", R = "reader wax 0 0 0 0 0;";
    private static final Due due = new Due();

    public static void main(String[] args) {
        feed();
        street();
        inPlace();
        faults();
        faultsChangeNothing();
        due.end("StreetsTest");
    }

    private static void feed() {
        PalmTastes x = new PalmTastes();
        due.is("0 bytes", x.feed(1, 0), Due.BAD);
        due.is("9 bytes", x.feed(1, 9), Due.BAD);
        due.is("-1 bytes", x.feed(1, -1), Due.BAD);
        due.is("1 byte", x.feed('w', 1), 1);
        due.is("the lowest of more", x.feed(0x7a7a7a7a7a000000L + ('a' << 16) + ('l' << 8) + 'l', 3), 4);
        due.is("count", x.count(6), 4);
        Due.feed(x, " 1 2 3 4 5;");
        due.is("read", x.street(), 1);
        due.is("the highest comes first", x.wall(0, 4), 5);
        due.is("the tape is empty", x.count(6), 0);
        for (int i = 0; i < 49; i++) x.feed(0x2020202020202020L, 8);
        due.is("399", x.feed(0x20202020202020L, 7), 399);
        due.is("401", x.feed(0x2020, 2), Due.FULL);
        due.is("BAD ahead of FULL", x.feed(0, 9), Due.BAD);
        due.is("none came", x.count(6), 399);
        due.is("400", x.feed(0x20, 1), 400);
        due.is("full", x.feed(0x20, 1), Due.FULL);
        due.is("the end of 400", x.street(), -1000500);
        PalmTastes y = new PalmTastes();
        due.is("bytes above 127", y.feed(-1L, 8), 8);
        due.is("are none", y.street(), -1000100);
    }

    private static void street() {
        PalmTastes x = new PalmTastes();
        due.is("one wall", Due.street(x, "wall 0 30 7 12 1;"), 1);
        int[] told = {0, 30, 7, 12, 1};
        for (int f = 0; f < 5; f++) due.is("wall(0, " + f + ")", x.wall(0, f), told[f]);
        due.is("readers", x.count(2), 0);
        due.is("strong in all", x.count(5), 50);
        due.is("none needed", Due.street(x, "wall1 2 3 4 5;wall6 7 8 9 10;reader plain9 8 7 6 5;"), 2);
        due.is("wall(1, 4)", x.wall(1, 4), 10);
        due.is("reader(0, 0)", x.reader(0, 0), 9);
        due.is("reader(0, 4)", x.reader(0, 4), 5);
        due.is("as many as wanted", Due.street(x, "\n  wall \n 1\n2 3  4 5\n;\n\n wall\n030 000 0 00 1 ; \n"), 2);
        due.is("three figures", x.wall(1, 0), 30);
        StringBuilder most = new StringBuilder();
        for (int i = 0; i < 8; i++) most.append("wall 1 1 1 1 ").append(i).append(';');
        for (int i = 0; i < 5; i++) most.append("reader fever 0 0 0 0 ").append(i).append(';');
        due.is("8 walls, 5 readers", Due.street(x, most.toString()), 8);
        due.is("count(1)", x.count(1), 8);
        due.is("count(2)", x.count(2), 5);
        due.is("the last wall", x.wall(7, 4), 7);
        due.is("the last reader", x.reader(4, 4), 4);
        String[] sorts = {"plain", "child", "scholar", "wax", "fever"};
        for (int i = 0; i < 5; i++) {
            Due.street(x, W + "reader " + sorts[i] + " 0 0 0 0 9;");
            due.is("the kind of " + sorts[i], x.kind(0), i + 1);
            due.is("his aftertaste", x.reader(0, 5), -1);
        }
    }

    private static void inPlace() {
        PalmTastes x = Due.on("wall 9 9 9 9 9;wall 9 9 9 9 9;reader plain 3 3 3 3 3;reader wax 1 1 1 1 1;");
        x.row(0, 0, 4);
        x.day(1);
        x.walk(0, 0, 1);
        x.image(1);
        Due.street(x, "wall 1 0 0 0 0;reader child 0 0 0 0 0;");
        due.is("DAY 0", x.count(3), 0);
        due.is("one wall", x.count(1), 1);
        due.is("one reader", x.count(2), 1);
        due.is("no second wall", x.wall(1, 0), Due.BAD);
        due.is("no second reader", x.reader(1, 0), Due.BAD);
        due.is("no aftertaste", x.reader(0, 5), -1);
        due.is("strong in all", x.count(5), 1);
        due.is("no act", x.undo(), Due.STATE);
        due.is("rows stay", x.count(0), 1);
        due.is("images stay", x.restore(1), 1);
        due.is("with its walls", x.count(1), 2);
    }

    private static void faulty(String text, int number, int place) {
        PalmTastes x = new PalmTastes();
        due.is("street of " + text, Due.street(x, text), -1000100 - place);
        due.is("fault of " + text, x.fault(), number);
        due.is("the tape behind " + text, x.count(6), 0);
    }

    private static void faults() {
        faulty("", 1, 0);
        faulty("  \n", 1, 3);
        faulty("reader wax 0 0 0 0 0;", 1, 0);
        faulty("\nwalls 0 0 0 0 0;", 1, 1);
        faulty("wal 0 0 0 0 0;", 1, 0);
        faulty("Wall 0 0 0 0 0;", 1, 0);
        faulty("wall 0 0 0 0 0", 1, 14);
        faulty("wall 0 0 0 0 0 \n ", 1, 17);
        faulty("wall 0 0 0 0;", 1, 12);
        faulty("wall 0 0 0 0 0 0;", 1, 15);
        faulty("wall;", 1, 4);
        faulty("xall 0 0 0 0 0;", 1, 0);
        faulty("wallz 0 0 0 0 0;", 1, 0);
        faulty("zwall 0 0 0 0 0;", 1, 0);
        faulty("walla 0 0 0 0 0;", 1, 0);
        faulty("wall`0 0 0 0 0;", 1, 4);
        faulty("wall{0 0 0 0 0;", 1, 4);
        faulty("wall 0 0 0 0 0:", 1, 14);
        faulty("wall 0 0 0 0 0/;", 1, 14);
        faulty("wall 0 0 0 0 0 0000", 1, 15);
        faulty("wall 0 0 0 0 0 wall", 1, 15);
        faulty((char) 0 + W, 1, 0);
        faulty(W + (char) 0, 1, 15);
        faulty(W + (char) 255, 1, 15);
        faulty(W + (char) 9, 1, 15);
        faulty(W + (char) 13 + "\n" + W, 1, 15);
        faulty("wall" + (char) 160 + "0 0 0 0 0;", 1, 4);
        faulty("wall wall 0 0 0 0 0;", 1, 5);
        faulty("wall 0 0 x 0 0;", 1, 9);
        faulty("wall 0 0 -1 0 0;", 1, 9);
        faulty("wall 0 0 0\t0 0;", 1, 10);
        faulty("wall 0 0 0,0 0;", 1, 10);
        faulty("wall 0 0 31 0 0;", 2, 9);
        faulty("wall 999 0 0 0 0;", 2, 5);
        faulty("wall 0 0 0 0 031;", 2, 13);
        faulty("wall 0 0 1000 0 0;", 1, 9);
        faulty("wall 0 0 0000 0 0;", 1, 9);
        faulty("wall 0 0 99999999999999999999 0 0;", 1, 9);
        faulty("wall 0 0 0 0 0;1", 1, 15);
        faulty("wall 0 0 0 0 0;;", 1, 15);
        faulty(W + "reader", 1, 21);
        faulty(W + "reader deaf 0 0 0 0 0;", 1, 22);
        faulty(W + "reader reader 0 0 0 0 0;", 1, 22);
        faulty(W + "reader waxy 0 0 0 0 0;", 1, 22);
        faulty(W + "reader wa 0 0 0 0 0;", 1, 22);
        faulty(W + "reader 0 0 0 0 0;", 1, 22);
        faulty(W + "reader wax 10 0 0 0 0;", 2, 26);
        faulty(W + "reader wax 0 0 0 0 10;", 2, 34);
        faulty(W + "reader wax 0 0 0 0 0000;", 1, 34);
        faulty(W + "reader wax 0 0 0 0 0 0;", 1, 36);
        faulty(W + "reader wax 0 0 0 0 0", 1, 35);
        faulty(W + R + W, 1, 36);
        faulty(W + R + "; ", 1, 36);
        faulty(W.repeat(9), 3, 120);
        faulty(W.repeat(8) + "wall", 3, 120);
        faulty(W.repeat(8) + " wall 31", 3, 121);
        faulty(W.repeat(8) + "walls", 1, 120);
        faulty(W + R.repeat(5) + "reader", 3, 120);
        faulty(W + R.repeat(5) + "\nreader deaf", 3, 121);
        faulty(W + R.repeat(5) + "wall", 1, 120);
        faulty("wall 31 0 0 0 00000;", 2, 5);
        faulty(W + "a", 1, 15);
    }

    private static void faultsChangeNothing() {
        PalmTastes x = Due.on("wall 1 2 3 4 5;wall 6 7 8 9 10;reader child 1 2 3 4 5;");
        x.day(0);
        x.walk(0, 0, 1);
        x.ask(0, 1);
        due.is("a fault", Due.street(x, "wall 30 30 30 30 30;reader wax 9 9 9 9 10;"), -1000100 - 39);
        due.is("its number", x.fault(), 2);
        due.is("walls", x.count(1), 2);
        due.is("readers", x.count(2), 1);
        due.is("days", x.count(3), 1);
        due.is("acts", x.count(4), 2);
        due.is("strong in all", x.count(5), 41);
        due.is("the kind", x.kind(0), 2);
        due.is("the trace", x.trace(0), 24);
        due.is("the aftertaste", x.reader(0, 5), 0);
        due.is("a street", Due.street(x, W), 1);
        due.is("the latest fault yet", x.fault(), 2);
        due.is("a fault of the end", x.street(), -1000100);
        due.is("the latest fault", x.fault(), 1);
    }
}
