/** The sentences on the tape, texts and faults that name a boundary case (block 1, promises 6 to 8), each with a test of its own. */
public final class TextBoundsTest {
    private static final String W = "wall 0 0 0 0 0;", R = "reader wax 0 0 0 0 0;";
    private static final Due due = new Due();

    public static void main(String[] args) {
        mostBytes();
        noneComes();
        lowestBytes();
        emptyThen();
        lettersAToZ();
        bytesAmongNumbers();
        bytesAheadAndBehind();
        threeFigures();
        blanks();
        wallsAheadOfReaders();
        fiveNumbers();
        howStrong();
        howUsed();
        sorts();
        eachLetterOfAWord();
        mostWalls();
        mostReaders();
        standsInPlace();
        everyEnd();
        firstFault();
        leastOfOneToken();
        latestFault();
        due.end("TextBoundsTest");
    }

    private static String shown(String text) {
        return text.length() < 60 ? text : text.substring(0, 20) + " .. " + text.substring(text.length() - 20);
    }

    private static void faulty(String text, int number, int place) {
        PalmTastes x = new PalmTastes();
        due.is("street of " + shown(text), Due.street(x, text), -1000100 - place);
        due.is("fault of " + shown(text), x.fault(), number);
        due.is("no street of " + shown(text), x.count(1), 0);
    }

    private static PalmTastes reads(String text, int walls) {
        PalmTastes x = new PalmTastes();
        due.is("street of " + shown(text), Due.street(x, text), walls);
        due.is("fault of " + shown(text), x.fault(), 0);
        return x;
    }

    private static String blanks(int n) {
        return " ".repeat(n);
    }

    /** "THE TAPE has at most 400 bytes" */
    private static void mostBytes() {
        for (int length : new int[] {399, 400}) {
            String text = W + blanks(length - 30) + "wall 1 2 3 4 5;";
            PalmTastes x = new PalmTastes();
            due.is("feed", Due.feed(x, text), length);
            due.is("count(6)", x.count(6), length);
            due.is("one byte more", x.feed('\n', 1), length < 400 ? 400 : Due.FULL);
            due.is("street of " + length, x.street(), 2);
            due.is("to the last byte", x.wall(1, 4), 5);
        }
        faulty(W + blanks(384) + "w", 1, 399);
        reads(W + blanks(385), 1);
    }

    /** "FULL: none comes." */
    private static void noneComes() {
        for (int n = 1; n <= 8; n++) {
            PalmTastes x = new PalmTastes();
            Due.feed(x, W + blanks(400 - 15 - n));
            if (n < 8) due.is((n + 1) + " bytes where there is room for " + n, x.feed(0x7878787878787878L, n + 1), Due.FULL);
            due.is("none came", x.count(6), 400 - n);
            due.is(n + " bytes", x.feed(0x2020202020202020L, n), 400);
            for (int more = 1; more <= 8; more++) due.is(more + " bytes more", x.feed(0x7878787878787878L, more), Due.FULL);
            due.is("count(6)", x.count(6), 400);
            due.is("street", x.street(), 1);
            due.is("room anew", x.feed(0x2020202020202020L, 8), 8);
        }
    }

    /** "The lowest n bytes of w (1 to 8), the highest of them first" */
    private static void lowestBytes() {
        String text = "wall 1 2";
        long whole = 0;
        for (char c : text.toCharArray()) whole = whole << 8 | c;
        for (int n = 1; n <= 8; n++) {
            PalmTastes x = new PalmTastes();
            Due.feed(x, text.substring(0, 8 - n));
            due.is("the lowest " + n, x.feed(whole, n), 8);
            Due.feed(x, " 3 4 5;");
            due.is("street", x.street(), 1);
            for (int f = 0; f < 5; f++) due.is("wall(0, " + f + ")", x.wall(0, f), f + 1);
        }
        PalmTastes y = new PalmTastes();
        due.is("n 0", y.feed(whole, 0), Due.BAD);
        due.is("n 9", y.feed(whole, 9), Due.BAD);
        due.is("a byte of 255", y.feed(-1L, 1), 1);
        due.is("is none", y.street(), -1000100);
        for (char c : W.toCharArray()) y.feed(0xffffffffffffff00L | c, 1);
        due.is("the higher ones are not looked at", y.street(), 1);
    }

    /** "The tape, empty then, is read": with a fault and without. */
    private static void emptyThen() {
        PalmTastes x = new PalmTastes();
        due.is("an empty tape", x.street(), -1000100);
        Due.feed(x, W);
        due.is("a street", x.street(), 1);
        due.is("empty", x.count(6), 0);
        due.is("nothing is read again", x.street(), -1000100);
        Due.feed(x, W + W + "x");
        due.is("a fault", x.street(), -1000130);
        due.is("empty", x.count(6), 0);
        due.is("one byte", x.feed('w', 1), 1);
        Due.feed(x, "all 0 0 0 0 0;");
        due.is("a street", x.street(), 1);
    }

    /** "NAMES (letters a to z)": one ends ahead of any other byte. */
    private static void lettersAToZ() {
        for (int b = 0; b < 256; b++) {
            String text = "wall" + (char) b + "0 0 0 0 0;";
            if (b == 32 || b == 10) reads(text, 1);
            else if (b >= 'a' && b <= 'z') faulty(text, 1, 0);
            else if (b >= '0' && b <= '3') reads(text, 1);
            else if (b >= '4' && b <= '9') faulty(text, 2, 4);
            else faulty(text, 1, 4);
        }
    }

    /** "NUMBERS (figures, ..)": no other byte is a part of one. */
    private static void bytesAmongNumbers() {
        for (int b = 0; b < 256; b++) {
            String text = "wall 0" + (char) b + "0 0 0 0;";
            if (b == 32 || b == 10) reads(text, 1);
            else if (b >= '0' && b <= '3') faulty(text, 1, 14);
            else if (b >= '4' && b <= '9') faulty(text, 2, 5);
            else faulty(text, 1, 6);
        }
    }

    /** "bytes 32 and 10 ahead of, between, behind these": no others. */
    private static void bytesAheadAndBehind() {
        for (int b = 0; b < 256; b++) {
            boolean blank = b == 32 || b == 10;
            if (blank) reads((char) b + W, 1);
            else faulty((char) b + W, 1, 0);
            if (blank) reads(W + (char) b, 1);
            else faulty(W + (char) b, 1, 15);
            if (blank) reads("wall 0 0 0 0 0" + (char) b + ";", 1);
            else if (b == ';') faulty("wall 0 0 0 0 0;;", 1, 15);
            else if (b == '0') reads("wall 0 0 0 0 00;", 1);
            else if (b < '1' || b > '9') faulty("wall 0 0 0 0 0" + (char) b + ";", 1, 14);
        }
    }

    /** "figures, 3 at most"; "a run of four figures or more, at its first" */
    private static void threeFigures() {
        String[] threes = {"000", "001", "009", "00", "0"};
        int[] values = {0, 1, 9, 0, 0};
        String[] fours = {"0000", "0001", "0009", "00000", "1000", "0030", "99999999999999999999", "4294967296", "2147483648"};
        for (int place = 0; place < 5; place++) {
            for (int i = 0; i < 5; i++) {
                PalmTastes x = reads(with("wall ", place, threes[i]) + with("reader child ", place, threes[i]), 1);
                due.is("so strong", x.wall(0, place), values[i]);
                due.is("so used", x.reader(0, place), values[i]);
            }
            for (String four : fours) {
                faulty(with("wall ", place, four), 1, 5 + 2 * place);
                faulty(W + with("reader child ", place, four), 1, 28 + 2 * place);
            }
        }
        faulty("0000" + W, 1, 0);
        faulty(W + "0000", 1, 15);
        faulty("wall 0 0 0 0 0 0000;", 1, 15);
    }

    /** Five numbers, 0 all but one. */
    private static String with(String ahead, int place, String number) {
        StringBuilder text = new StringBuilder(ahead);
        for (int i = 0; i < 5; i++) text.append(i > 0 ? " " : "").append(i == place ? number : "0");
        return text.append(';').toString();
    }

    /** "as many as wanted (none is needed where one ends without)" */
    private static void blanks() {
        reads("wall0 0 0 0 0;wall0 0 0 0 0;reader wax0 0 0 0 0;reader plain0 0 0 0 0;", 2);
        String many = " \n\n  ";
        reads(many + "wall" + many + "0" + many + "0" + many + "0" + many + "0" + many + "0" + many + ";" + many, 1);
        reads(blanks(385) + W, 1);
        reads("\n".repeat(385) + W, 1);
        reads(W + "\n".repeat(385), 1);
        faulty("wallwall 0 0 0 0 0;", 1, 0);
        faulty("wa ll 0 0 0 0 0;", 1, 0);
        faulty(W + "readerwax 0 0 0 0 0;", 1, 15);
        faulty(W + "reader wa\nx 0 0 0 0 0;", 1, 22);
        faulty("wall 00000;", 1, 5);
        PalmTastes x = reads("wall 1 0 1\n0 10;", 1);
        int[] told = {1, 0, 1, 0, 10};
        for (int f = 0; f < 5; f++) due.is("a blank ends a number: wall(0, " + f + ")", x.wall(0, f), told[f]);
    }

    /** "street: wall { wall } { reader }": one wall at least, no reader at least, all walls ahead of all readers. */
    private static void wallsAheadOfReaders() {
        faulty("", 1, 0);
        faulty(blanks(400), 1, 400);
        faulty(R, 1, 0);
        faulty(R + W, 1, 0);
        PalmTastes x = reads(W, 1);
        due.is("no reader", x.count(2), 0);
        reads(W + R, 1);
        reads(W + R + R, 1);
        reads(W + W + R, 2);
        faulty(W + R + W, 1, 36);
        faulty(W + W + R + R + W, 1, 72);
        faulty(";" + W, 1, 0);
        faulty("0", 1, 0);
        for (String none : new String[] {"xall", "walx", "wal", "all", "xwall", "wallx"}) faulty(none + " 0 0 0 0 0;", 1, 0);
        for (String none : new String[] {"xeader", "readex", "reade", "eader", "xreader", "readerx"}) {
            faulty(W + none + " wax 0 0 0 0 0;", 1, 15);
        }
    }

    /** "'wall' and 5 NUMBERS ';'", "'reader' SORT and 5 NUMBERS ';'" */
    private static void fiveNumbers() {
        for (int n = 0; n <= 7; n++) {
            String numbers = " 0".repeat(n) + ";";
            int fault = n < 5 ? 2 * n : 11;
            if (n == 5) reads("wall" + numbers + "reader fever" + numbers, 1);
            else faulty("wall" + numbers, 1, 4 + fault);
            if (n != 5) faulty(W + "reader fever" + numbers, 1, 27 + fault);
        }
        faulty("wall 0 0 0 0 0 wall", 1, 15);
        faulty(W + "reader fever 0 0 0 0 0 reader", 1, 38);
        faulty("wall 0 0 0 0 wall;", 1, 13);
        faulty("wall ; 0 0 0 0 0", 1, 5);
    }

    /** "(0 to 30: how strong FLAVOURS 0 to 4 are ..)" */
    private static void howStrong() {
        for (int f = 0; f < 5; f++) {
            for (int strong : new int[] {0, 1, 29, 30}) {
                PalmTastes x = reads(with("wall ", f, "" + strong), 1);
                for (int g = 0; g < 5; g++) due.is("wall(0, " + g + ")", x.wall(0, g), f == g ? strong : 0);
            }
            for (String strong : new String[] {"31", "031", "32", "99", "100", "256", "999"}) {
                faulty(with("wall ", f, strong), 2, 5 + 2 * f);
                faulty(W.repeat(7) + with("wall ", f, strong), 2, 110 + 2 * f);
            }
            faulty(with("wall ", f, "-1"), 1, 5 + 2 * f);
            faulty(with("wall ", f, "+1"), 1, 5 + 2 * f);
        }
    }

    /** "0 to 9: how USED to FLAVOURS he is" */
    private static void howUsed() {
        for (int f = 0; f < 5; f++) {
            for (int used : new int[] {0, 1, 8, 9}) {
                PalmTastes x = reads(W + with("reader scholar ", f, "" + used), 1);
                for (int g = 0; g < 5; g++) due.is("reader(0, " + g + ")", x.reader(0, g), f == g ? used : 0);
            }
            for (String used : new String[] {"10", "010", "11", "30", "31", "100", "999"}) {
                faulty(W + with("reader scholar ", f, used), 2, 30 + 2 * f);
            }
        }
    }

    /** "SORT: 'plain' | 'child' | 'wax' | 'fever' | 'scholar'" */
    private static void sorts() {
        String[] sorts = {"plain", "child", "scholar", "wax", "fever"};
        for (int i = 0; i < 5; i++) {
            String sort = sorts[i];
            PalmTastes x = reads(W + "reader " + sort + "0 0 0 0 0;", 1);
            due.is("the kind of " + sort, x.kind(0), i + 1);
            String shorter = sort.substring(0, sort.length() - 1);
            faulty(W + "reader " + shorter + " 0 0 0 0 0;", 1, 22);
            faulty(W + "reader " + sort + "s 0 0 0 0 0;", 1, 22);
            faulty(W + "reader x" + sort + " 0 0 0 0 0;", 1, 22);
            faulty(W + "reader " + sort.substring(1) + " 0 0 0 0 0;", 1, 22);
            faulty(W + "reader " + shorter + "z 0 0 0 0 0;", 1, 22);
            faulty(W + "reader z" + sort.substring(1) + " 0 0 0 0 0;", 1, 22);
            faulty(W + "reader " + sort + " " + sort + " 0 0 0 0 0;", 1, 23 + sort.length());
        }
        for (String none : new String[] {"reader", "wall", "sweet", "0", ";", "Plain"}) faulty(W + "reader " + none, 1, 22);
    }

    /** "'wall' .. 'reader' .. 'plain' | 'child' | 'wax' | 'fever' | 'scholar'": with another letter at one place it is no such word. */
    private static void eachLetterOfAWord() {
        String[] words = {"wall", "reader", "plain", "child", "wax", "fever", "scholar"};
        String[] aheads = {"", W, W + "reader ", W + "reader ", W + "reader ", W + "reader ", W + "reader "};
        for (int i = 0; i < words.length; i++) {
            String behind = i == 1 ? " plain 0 0 0 0 0;" : " 0 0 0 0 0;";
            reads(aheads[i] + words[i] + behind, 1);
            for (int place = 0; place < words[i].length(); place++) {
                for (char letter = 'a'; letter <= 'z'; letter++) {
                    if (letter == words[i].charAt(place)) continue;
                    String other = words[i].substring(0, place) + letter + words[i].substring(place + 1);
                    faulty(aheads[i] + other + behind, 1, aheads[i].length());
                }
            }
        }
    }

    /** "WALLS 0 .. 7, 8 at most"; "3 a wall .. more than there is room for (its word)" */
    private static void mostWalls() {
        for (int walls = 1; walls <= 8; walls++) {
            PalmTastes x = reads(W.repeat(walls - 1) + "wall 0 0 0 0 9;", walls);
            due.is("count(1)", x.count(1), walls);
            due.is("the last", x.wall(walls - 1, 4), 9);
            due.is("one beyond", x.wall(walls, 4), Due.BAD);
        }
        reads(W.repeat(8) + R, 8);
        faulty(W.repeat(9), 3, 120);
        faulty(W.repeat(8) + "\n \nwall", 3, 123);
        faulty(W.repeat(20), 3, 120);
    }

    /** "READERS 0 .. 4, 5 at most"; "3 .. a reader more than there is room for (its word)" */
    private static void mostReaders() {
        for (int readers = 1; readers <= 5; readers++) {
            PalmTastes x = reads(W + R.repeat(readers - 1) + "reader wax 0 0 0 0 9;", 1);
            due.is("count(2)", x.count(2), readers);
            due.is("the last", x.reader(readers - 1, 4), 9);
            due.is("one beyond", x.reader(readers, 4), Due.BAD);
        }
        reads(W.repeat(8) + R.repeat(5), 8);
        faulty(W + R.repeat(6), 3, 120);
        faulty(W + R.repeat(5) + " \nreader", 3, 122);
        faulty(W.repeat(8) + R.repeat(6), 3, 225);
    }

    /** "stands in place of the one before ..: DAY 0; nobody has an AFTERTASTE; no ACT can be undone; IMAGES and ROWS stay" */
    private static void standsInPlace() {
        PalmTastes x = Due.on("wall 30 9 9 9 9;".repeat(8) + "reader fever 9 9 9 9 9;".repeat(5));
        due.is("an image", x.image(1), 1);
        x.row(3, 0, 2);
        x.ask(4, 0);
        x.day(0);
        for (int r = 0; r < 5; r++) x.walk(r, 0, 1);
        due.is("acts", x.count(4), 6);
        due.is("a street", Due.street(x, "wall 1 0 0 0 0;wall 2 0 0 0 0;" + "reader plain 1 0 0 0 0;".repeat(2)), 2);
        int[] counts = {1, 2, 2, 0, 0, 3, 0};
        for (int what = 0; what < 7; what++) due.is("count(" + what + ")", x.count(what), counts[what]);
        for (int r = 0; r < 2; r++) due.is("no aftertaste", x.reader(r, 5), -1);
        due.is("no act", x.undo(), Due.STATE);
        due.is("the trace stays", x.trace(0), 14);
        due.is("the image stays", x.restore(1), 1);
        due.is("all its walls", x.count(5), 8 * 66);
        due.is("all its readers", x.count(2), 5);
        due.is("the other image is none", x.restore(0), Due.STATE);
        due.is("the row stays", x.drop(3), 2);
    }

    /** "the end: how many bytes there are": of a text that ends at each byte. */
    private static void everyEnd() {
        String text = "wall 1 2 3 4 5;reader plain 1 2 3 4 5;";
        for (int n = 0; n < text.length(); n++) {
            String part = text.substring(0, n);
            if (n == 15) reads(part, 1);
            else if (n < 4) faulty(part, 1, 0);
            else if (n > 15 && n < 21) faulty(part, 1, 15);
            else if (n > 22 && n < 27) faulty(part, 1, 22);
            else faulty(part, 1, n);
            if (n >= 4 && n < 15 || n >= 27) faulty(part + " \n\n", 1, n + 3);
        }
        reads(text, 1);
    }

    /** "the first TOKEN that has one (its first byte)" */
    private static void firstFault() {
        faulty("wall 31 0 0 0 1000;", 2, 5);
        faulty("wall 1000 0 0 0 31;", 1, 5);
        faulty("wall 0 31 x 0 0;", 2, 7);
        faulty("wall 0 x 31 0 0;", 1, 7);
        faulty(W.repeat(8) + "wall 31", 3, 120);
        faulty(W.repeat(7) + "wall 31 0 0 0 0;wall", 2, 110);
        faulty(W + R.repeat(5) + "reader deaf", 3, 120);
        faulty(W + R.repeat(4) + "reader deaf 0 0 0 0 0;reader", 1, 106);
        faulty(W + "reader deaf 10 0 0 0 0;", 1, 22);
        faulty("\n\n   wall\n  31", 2, 12);
        faulty(W + "   \n!", 1, 19);
        faulty(W + "abc def", 1, 15);
    }

    /** "of one TOKEN the least" */
    private static void leastOfOneToken() {
        faulty("wall 0 0 0 0 0 31;", 1, 15);
        faulty("31" + W, 1, 0);
        faulty(W + "99", 1, 15);
        faulty(W + "reader 10", 1, 22);
        faulty("wall 0 0 1000 0 0;", 1, 9);
        faulty(W.repeat(8) + R + "wall", 1, 141);
        faulty(W.repeat(8) + R.repeat(5) + "wall", 1, 225);
        faulty(W.repeat(8) + "wall 0 0 0 0 0 wall", 3, 120);
        faulty(W.repeat(7) + "wall 0 0 0 0 0 wall", 1, 120);
        faulty(W + R.repeat(4) + "reader wax 0 0 0 0 0 reader", 1, 120);
    }

    /** "The number of the latest FAULT; 0 before one." */
    private static void latestFault() {
        PalmTastes x = new PalmTastes();
        due.is("before one", x.fault(), 0);
        Due.street(x, W);
        due.is("behind a street", x.fault(), 0);
        Due.feed(x, "wall 31");
        due.is("not read yet", x.fault(), 0);
        x.street();
        due.is("2", x.fault(), 2);
        Due.street(x, W);
        due.is("behind a street", x.fault(), 2);
        Due.street(x, W.repeat(9));
        due.is("3", x.fault(), 3);
        x.image(0);
        x.restore(0);
        due.is("behind an image", x.fault(), 3);
        x.street();
        due.is("1", x.fault(), 1);
        due.is("asked again", x.fault(), 1);
    }
}
