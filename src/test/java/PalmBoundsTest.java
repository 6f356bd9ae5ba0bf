/** The sentences on palms and acts that name a boundary case (block 2, promises 9 to 16), each with a test of its own. */
public final class PalmBoundsTest {
    private static final String[] SORTS = {"plain", "child", "scholar", "wax", "fever"};
    private static final int PLAIN = 0, CHILD = 1, SCHOLAR = 2, WAX = 3, FEVER = 4;
    private static final Due due = new Due();

    public static void main(String[] args) {
        lessHowUsed();
        lessOfTheAftertaste();
        twiceByAChild();
        lessWithWax();
        aboveNone();
        ofSeveralTheFirst();
        mostIsTasted();
        sweetAsBitter();
        usedMore();
        usedLess();
        scholarStays();
        nothingIsNone();
        keptActs();
        latestFirst();
        nothingBecomesAnother();
        paintedAtMost();
        weakerByADay();
        weakerByRain();
        goneByIt();
        upAndDown();
        oneWall();
        rests();
        nobodyElse();
        due.end("PalmBoundsTest");
    }

    /** A number for each flavour, all 0 but one. */
    private static String only(int flavour, int number) {
        StringBuilder text = new StringBuilder();
        for (int f = 0; f < 5; f++) text.append(' ').append(f == flavour ? number : 0);
        return text.append(';').toString();
    }

    private static String all(int number) {
        return " " + (number + " ").repeat(5) + ";";
    }

    private static void palm(String what, PalmTastes x, int reader, int... palm) {
        for (int i = 0; i < 6; i++) due.is(what + ": reader(" + reader + ", " + i + ")", x.reader(reader, i), palm[i]);
    }

    /** "how strong it is, less how USED he is to it ..; 0 at least" */
    private static void lessHowUsed() {
        for (int f = 0; f < 5; f++) {
            for (int used = 0; used <= 9; used++) {
                for (int strong : new int[] {0, Math.max(0, used - 1), used, used + 1, 29, 30}) {
                    PalmTastes x = Due.on("wall" + only(f, strong) + "reader plain" + only(f, used) + "reader scholar" + only(f, used));
                    for (int r = 0; r < 2; r++) due.is(strong + " less " + used, x.felt(r, 0, f), strong > used ? strong - used : 0);
                    due.is("another flavour", x.felt(0, 0, (f + 1) % 5), 0);
                }
            }
        }
    }

    /** "2 less if it is his AFTERTASTE; 0 at least" */
    private static void lessOfTheAftertaste() {
        for (int f = 0; f < 5; f++) {
            for (int strong = 0; strong <= 4; strong++) {
                PalmTastes x = Due.on("wall" + only(f, 30) + "wall" + all(strong) + "reader scholar" + all(0) + "reader plain" + all(0));
                x.walk(0, 0, 0);
                x.walk(1, 0, 0);
                for (int g = 0; g < 5; g++) {
                    due.is("a scholar", x.felt(0, 1, g), f == g ? Math.max(0, strong - 2) : strong);
                    due.is("a plain one, used by 1", x.felt(1, 1, g), f == g ? Math.max(0, strong - 3) : strong);
                }
            }
        }
    }

    /** "0 at least; by a child twice that" */
    private static void twiceByAChild() {
        for (int strong = 0; strong <= 30; strong++) {
            PalmTastes x = Due.on("wall" + all(strong) + "wall" + only(2, 30) + "reader child 0 1 0 5 9;");
            int[] used = {0, 1, 0, 5, 9};
            for (int f = 0; f < 5; f++) due.is("twice", x.felt(0, 0, f), 2 * Math.max(0, strong - used[f]));
            x.walk(0, 1, 1);
            due.is("of the aftertaste", x.felt(0, 0, 2), 2 * Math.max(0, strong - 3));
            due.is("of another", x.felt(0, 0, 3), 2 * Math.max(0, strong - 4));
        }
    }

    /** "with wax on his palm 4 less, 0 at least"; "FEVER, a WAX one (whose palm is bare)" */
    private static void lessWithWax() {
        for (int strong = 0; strong <= 30; strong++) {
            PalmTastes x = Due.on("wall" + all(strong) + "wall" + only(2, 30) + "reader wax 0 1 0 5 9;reader fever 0 1 0 5 9;");
            int[] used = {0, 1, 0, 5, 9};
            for (int f = 0; f < 5; f++) {
                due.is("4 less", x.felt(0, 0, f), Math.max(0, strong - used[f] - 4));
                due.is("bare", x.felt(1, 0, f), Math.max(0, strong - used[f]));
            }
            for (int r = 0; r < 2; r++) x.walk(r, 1, 1);
            due.is("4 less of the aftertaste", x.felt(0, 0, 2), Math.max(0, strong - 7));
            due.is("bare, of the aftertaste", x.felt(1, 0, 2), Math.max(0, strong - 3));
        }
    }

    /** "above 0 ..; none: he TASTES nothing (-1)" */
    private static void aboveNone() {
        int[] strongest = {2, 2, 2, 6, 2};
        for (int sort = 0; sort < 5; sort++) {
            for (int f = 0; f < 5; f++) {
                PalmTastes x = Due.on("wall" + only(f, strongest[sort]) + "reader " + SORTS[sort] + all(2));
                due.is("0 is felt", x.felt(0, 0, f), 0);
                due.is("nothing", x.read(0, 0, 0, 0), -1);
                due.is("nowhere", x.walk(0, 0, 0), 0);
                due.is("no aftertaste", x.reader(0, 5), -1);
                x = Due.on("wall" + only(f, strongest[sort] + 1) + "reader " + SORTS[sort] + all(2));
                due.is("1 is felt", x.felt(0, 0, f), sort == CHILD ? 2 : 1);
                due.is("at one wall", x.walk(0, 0, 0), 1);
                due.is("an aftertaste", x.reader(0, 5), f);
            }
        }
    }

    /** "of several the first" */
    private static void ofSeveralTheFirst() {
        for (String sort : SORTS) {
            for (int first = 0; first < 5; first++) {
                StringBuilder wall = new StringBuilder("wall");
                for (int f = 0; f < 5; f++) wall.append(' ').append(f < first ? 8 : 9);
                PalmTastes x = Due.on(wall + ";reader " + sort + all(0));
                x.walk(0, 0, 0);
                due.is(sort + ", the first of those of 9", x.reader(0, 5), first);
            }
        }
        PalmTastes y = Due.on("wall 12 11 10 9 8;reader plain 4 3 2 1 0;reader plain 4 3 2 0 0;reader plain 5 3 2 1 0;");
        due.is("all felt alike", y.read(0, 0, 0, 0), 0);
        due.is("one more", y.read(1, 0, 0, 0), 3);
        due.is("one less", y.read(2, 0, 0, 0), 1);
    }

    /** "the FLAVOUR that is FELT most": by one more, ahead of it or behind it. */
    private static void mostIsTasted() {
        for (int most = 0; most < 5; most++) {
            for (String sort : SORTS) {
                StringBuilder wall = new StringBuilder("wall");
                for (int f = 0; f < 5; f++) wall.append(' ').append(f == most ? 30 : 29);
                PalmTastes x = Due.on(wall + ";reader " + sort + all(0));
                x.walk(0, 0, 0);
                due.is(sort, x.reader(0, 5), most);
            }
        }
    }

    /** "one with a fever sweet as bitter, bitter as sweet": he tastes what there is. */
    private static void sweetAsBitter() {
        int[] reads = {1, 0, 2, 3, 4};
        for (int f = 0; f < 5; f++) {
            for (int sort = 0; sort < 5; sort++) {
                PalmTastes x = Due.on("wall" + only(f, 9) + "reader " + SORTS[sort] + all(1));
                due.is(SORTS[sort] + " reads", x.read(0, 0, 0, 0), sort == FEVER ? reads[f] : f);
                x.walk(0, 0, 0);
                due.is("tasted", x.reader(0, 5), f);
                due.is("used to it", x.reader(0, f), sort == SCHOLAR ? 1 : 2);
            }
        }
        PalmTastes y = Due.on("wall" + all(0) + "reader fever" + all(0));
        due.is("nothing as nothing", y.read(0, 0, 0, 0), -1);
    }

    /** "USED by 1 more to what he TASTED, 9 at most" */
    private static void usedMore() {
        for (int sort : new int[] {PLAIN, CHILD, WAX, FEVER}) {
            for (int f = 0; f < 5; f++) {
                PalmTastes x = Due.on("wall" + only(f, 30) + "reader " + SORTS[sort] + only(f, 7));
                for (int used = 8; used <= 11; used++) {
                    due.is("tasted", x.walk(0, 0, 0), 1);
                    due.is("used", x.reader(0, f), Math.min(9, used));
                }
            }
        }
    }

    /** "by 1 less to all others, 0 at least" */
    private static void usedLess() {
        PalmTastes x = Due.on("wall 0 0 30 0 0;reader plain 2 1 0 3 9;reader wax 2 1 0 3 9;");
        int[][] then = {{1, 0, 1, 2, 8}, {0, 0, 2, 1, 7}, {0, 0, 3, 0, 6}, {0, 0, 4, 0, 5}};
        for (int[] used : then) {
            for (int r = 0; r < 2; r++) {
                x.walk(r, 0, 0);
                palm("less", x, r, used[0], used[1], used[2], used[3], used[4], 2);
            }
        }
        PalmTastes y = Due.on("wall 0 0 0 0 0;reader plain 2 1 0 3 9;");
        y.walk(0, 0, 0);
        palm("nothing tasted: less of all", y, 0, 1, 0, 0, 2, 8, -1);
        y.walk(0, 0, 0);
        palm("and again", y, 0, 0, 0, 0, 1, 7, -1);
    }

    /** "(a scholar stays as USED as he is)" */
    private static void scholarStays() {
        PalmTastes x = Due.on("wall 30 0 0 0 0;wall 0 0 0 0 0;wall 0 0 0 0 30;reader scholar 9 0 1 5 8;");
        x.walk(0, 0, 0);
        palm("9 yet", x, 0, 9, 0, 1, 5, 8, 0);
        x.walk(0, 1, 1);
        palm("nothing tasted", x, 0, 9, 0, 1, 5, 8, -1);
        x.walk(0, 0, 2);
        palm("a longer walk", x, 0, 9, 0, 1, 5, 8, 4);
        due.is("but he rests", x.rest(0), 23);
        palm("rested", x, 0, 0, 0, 0, 0, 0, -1);
    }

    /** "what he TASTED is his AFTERTASTE, nothing is none" */
    private static void nothingIsNone() {
        PalmTastes x = Due.on("wall 3 0 0 0 0;wall 0 0 0 0 0;wall 2 0 0 0 0;reader scholar 0 0 0 0 0;reader plain 0 0 0 0 0;");
        x.walk(0, 0, 0);
        due.is("sweet", x.reader(0, 5), 0);
        due.is("2 less: nothing", x.read(0, 2, 2, 0), -1);
        due.is("behind nothing it is felt", x.read(0, 1, 2, 1), 0);
        due.is("behind sweet it is not", x.read(0, 0, 2, 2), 0);
        x.walk(0, 1, 1);
        due.is("none", x.reader(0, 5), -1);
        due.is("felt anew", x.felt(0, 2, 0), 2);
        due.is("told: none", x.reader(1, 5), -1);
        x.walk(1, 0, 1);
        due.is("the last wall's", x.reader(1, 5), -1);
        x.walk(1, 1, 0);
        due.is("the last wall's, down", x.reader(1, 5), 0);
    }

    /** "24 at most are kept, of more the oldest is forgotten" */
    private static void keptActs() {
        for (int acts = 22; acts <= 50; acts++) {
            PalmTastes x = Due.on("wall 0 0 0 0 0;wall 0 0 0 0 0;");
            for (int i = 1; i <= acts; i++) {
                x.paint(i % 2, i % 5, 1);
                due.is("acts kept of " + i, x.count(4), Math.min(24, i));
            }
            int left = Math.min(24, acts);
            while (left > 0) {
                left--;
                due.is("undo of " + acts, x.undo(), left);
                due.is("count(4)", x.count(4), left);
                due.is("strong in all", x.count(5), Math.max(0, acts - 24) + left);
            }
            due.is("none", x.undo(), Due.STATE);
            due.is("those that are forgotten stay", x.count(5), Math.max(0, acts - 24));
            due.is("one more", x.paint(0, 0, 30), 30);
            due.is("which is undone", x.undo(), 0);
        }
    }

    /** "each can be undone, the latest first": each kind of act, with all that it does. */
    private static void latestFirst() {
        PalmTastes x = Due.on("wall 9 9 9 9 9;wall 5 0 0 0 30;reader plain 1 2 3 4 5;reader child 5 0 0 0 0;");
        x.walk(0, 1, 0);
        x.day(5);
        x.rest(0);
        x.paint(1, 3, 7);
        due.is("paint undone", x.undo(), 3);
        due.is("salt", x.wall(1, 3), 0);
        palm("rested yet", x, 0, 0, 0, 0, 0, 0, -1);
        due.is("rest undone", x.undo(), 2);
        palm("walked", x, 0, 1, 0, 1, 2, 5, 0);
        due.is("days", x.count(3), 1);
        due.is("strong in all", x.count(5), 4 * 3 + 1 + 24);
        due.is("day undone", x.undo(), 1);
        due.is("days", x.count(3), 0);
        due.is("strong in all", x.count(5), 45 + 35);
        palm("walked yet", x, 0, 1, 0, 1, 2, 5, 0);
        due.is("walk undone", x.undo(), 0);
        palm("as told", x, 0, 1, 2, 3, 4, 5, -1);
        palm("the other", x, 1, 5, 0, 0, 0, 0, -1);
        due.is("none", x.undo(), Due.STATE);
    }

    /** "also such by which nothing becomes another" */
    private static void nothingBecomesAnother() {
        PalmTastes x = Due.on("wall 0 0 0 0 30;wall 0 0 0 0 0;reader plain 0 0 0 0 0;reader scholar 9 9 9 9 9;");
        due.is("30 already", x.paint(0, 4, 30), 30);
        due.is("rested already", x.rest(0), 0);
        due.is("nothing to taste", x.walk(0, 1, 1), 0);
        due.is("a scholar's nothing", x.walk(1, 1, 1), 0);
        due.is("four acts", x.count(4), 4);
        for (int left = 3; left >= 0; left--) due.is("undo", x.undo(), left);
        due.is("none", x.undo(), Due.STATE);
        PalmTastes y = Due.on("wall 0 0 0 0 0;");
        due.is("nothing fades", y.day(5), 0);
        due.is("one act", y.count(4), 1);
        due.is("undone", y.undo(), 0);
    }

    /** "a FLAVOUR is stronger by some, 30 at most"; "by n (1 to 30): how strong the FLAVOUR is then" */
    private static void paintedAtMost() {
        for (int strong : new int[] {0, 1, 28, 29, 30}) {
            for (int n : new int[] {1, 2, 29, 30}) {
                PalmTastes x = Due.on("wall" + all(strong));
                int then = Math.min(30, strong + n);
                due.is(strong + " and " + n, x.paint(0, 3, n), then);
                due.is("it is so", x.wall(0, 3), then);
                due.is("no other", x.count(5), 4 * strong + then);
            }
            PalmTastes y = Due.on("wall" + all(strong));
            due.is("by 0", y.paint(0, 3, 0), Due.BAD);
            due.is("by 31", y.paint(0, 3, 31), Due.BAD);
            due.is("no act", y.count(4), 0);
        }
    }

    /** "each FLAVOUR on each WALL is weaker by 1, sour by 3 .., 0 at least" */
    private static void weakerByADay() {
        for (int strong : new int[] {0, 1, 2, 3, 4, 5, 29, 30}) {
            PalmTastes x = Due.on(("wall" + all(strong)).repeat(8));
            int others = Math.max(0, strong - 1);
            int sour = Math.max(0, strong - 3);
            x.day(0);
            for (int w = 0; w < 8; w++) {
                for (int f = 0; f < 5; f++) due.is("weaker than " + strong, x.wall(w, f), f == 2 ? sour : others);
            }
            due.is("a day", x.count(3), 1);
        }
    }

    /** "with RAIN of 0 to 5: .. and by RAIN, 0 at least" */
    private static void weakerByRain() {
        for (int rain = 0; rain <= 5; rain++) {
            for (int more = -1; more <= 1; more++) {
                int strong = Math.max(0, rain + 1 + more);
                int sour = Math.max(0, rain + 3 + more);
                PalmTastes x = Due.on("wall " + strong + " 30 " + sour + " 0 " + strong + ";wall 0 0 30 0 0;");
                x.day(rain);
                int[] then = {Math.max(0, more), 29 - rain, Math.max(0, more), 0, Math.max(0, more), 0, 0, 27 - rain, 0, 0};
                for (int i = 0; i < 10; i++) due.is("behind rain " + rain, x.wall(i / 5, i % 5), then[i]);
            }
        }
        PalmTastes y = Due.on("wall 30 30 30 30 30;");
        due.is("rain -1", y.day(-1), Due.BAD);
        due.is("rain 6", y.day(6), Due.BAD);
        due.is("as strong as it was", y.count(5), 150);
        due.is("no day", y.count(3), 0);
    }

    private static String wall(int others, int sour) {
        return "wall " + others + " " + others + " " + sour + " " + others + " " + others + ";";
    }

    /** "FLAVOURS that are gone by it, of all WALLS, how many": none that was gone, none that is left. */
    private static void goneByIt() {
        for (int rain = 0; rain <= 5; rain++) {
            String at = wall(rain + 1, rain + 3);
            String beyond = wall(rain + 2, rain + 4);
            due.is("all of them", Due.on(at).day(rain), 5);
            due.is("none of them", Due.on(beyond).day(rain), 0);
            due.is("of eight walls", Due.on(at.repeat(8)).day(rain), 40);
            PalmTastes x = Due.on(at + beyond + "wall 0 0 0 0 0;" + at);
            due.is("of two in four", x.day(rain), 10);
            due.is("what was left of the other", x.day(0), 5);
            due.is("nothing is left", x.day(rain), 0);
            due.is("days", x.count(3), 3);
        }
    }

    /** "a READER WALKS from WALL to WALL, up or down, TASTING each on the way, both too" */
    private static void upAndDown() {
        String five = "wall 9 0 0 0 0;wall 0 9 0 0 0;wall 0 0 9 0 0;wall 0 0 0 9 0;wall 0 0 0 0 9;";
        for (int from = 0; from < 5; from++) {
            for (int to = 0; to < 5; to++) {
                PalmTastes x = Due.on(five + "reader plain 0 0 0 0 0;");
                due.is("walk(0, " + from + ", " + to + ")", x.walk(0, from, to), Math.abs(from - to) + 1);
                int[] palm = new int[6];
                palm[to] = 1;
                palm[5] = to;
                palm("the last is tasted last", x, 0, palm);
            }
        }
        PalmTastes y = Due.on("wall 9 0 0 0 0;".repeat(8) + "reader plain 0 0 0 0 0;");
        due.is("eight walls up, 0 felt at the last", y.walk(0, 0, 7), 7);
        due.is("eight walls down, 0 felt at each second", y.walk(0, 7, 0), 4);
    }

    /** "from WALL to WALL": which may be the same. */
    private static void oneWall() {
        PalmTastes x = Due.on("wall 9 0 0 0 0;wall 0 0 0 0 0;reader plain 0 0 3 0 0;");
        due.is("one", x.walk(0, 0, 0), 1);
        palm("once", x, 0, 1, 0, 2, 0, 0, 0);
        due.is("none", x.walk(0, 1, 1), 0);
        palm("nothing", x, 0, 0, 0, 1, 0, 0, -1);
        due.is("acts", x.count(4), 2);
    }

    /** "a READER RESTS: he is USED to nothing, has no AFTERTASTE"; "all that he was USED, added" */
    private static void rests() {
        for (String sort : SORTS) {
            PalmTastes x = Due.on("wall 0 0 0 0 30;reader " + sort + " 9 9 9 9 9;reader " + sort + " 9 8 7 6 4;");
            x.walk(1, 0, 0);
            due.is("45 at most", x.rest(0), 45);
            palm("rested", x, 0, 0, 0, 0, 0, 0, -1);
            due.is("0 at least", x.rest(0), 0);
            due.is("the other has his aftertaste", x.reader(1, 5), 4);
            x.rest(1);
            palm("none now", x, 1, 0, 0, 0, 0, 0, -1);
        }
    }

    /** What one reader tastes is nothing to the others. */
    private static void nobodyElse() {
        for (int walker = 0; walker < 5; walker++) {
            StringBuilder text = new StringBuilder("wall 30 0 0 0 0;");
            for (String sort : SORTS) text.append("reader ").append(sort).append(" 1 2 3 4 5;");
            PalmTastes x = Due.on(text.toString());
            x.walk(walker, 0, 0);
            for (int r = 0; r < 5; r++) {
                if (r != walker) palm("not walked", x, r, 1, 2, 3, 4, 5, -1);
                else due.is("walked", x.reader(r, 5), 0);
            }
        }
    }
}
