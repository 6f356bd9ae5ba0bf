/** The sentences on what is foretold that name a boundary case (block 3, promises 17 to 24), each with a test of its own. */
public final class ForetoldBoundsTest {
    private static final int MAX = Integer.MAX_VALUE;
    private static final String[] SORTS = {"plain", "child", "scholar", "wax", "fever"};
    /** Walls on which wall w alone tastes of flavour w, strong enough for all; wall 5 of nothing. */
    private static final String SIX = "wall 9 0 0 0 0;wall 0 9 0 0 0;wall 0 0 9 0 0;wall 0 0 0 9 0;wall 0 0 0 0 9;wall 0 0 0 0 0;";
    private static final Due due = new Due();

    public static void main(String[] args) {
        kthWall();
        readNothing();
        wrongAtItsPlace();
        wrongToldNothing();
        asManyItemsAsWalls();
        fewestWalks();
        atSomeWall();
        oneBehindAnother();
        oftenOnEachWay();
        asLittleAsCanBe();
        atMostThirty();
        cannotBeAtOne();
        oneBehindTheOther();
        spiceOfAFever();
        moreOfBoth();
        noneForOneOfBoth();
        toldStrength();
        firstOrder();
        noOrder();
        daysAgo();
        howStrongThen();
        noRain();
        behindSoManyDays();
        fromIOn();
        eachWallABit();
        due.end("ForetoldBoundsTest");
    }

    /** "what a READER READS at the k-th WALL of a WALK"; "k 0 on; .. NONE: not so many WALLS"; "BAD: k below 0, too" */
    private static void kthWall() {
        PalmTastes x = Due.on(SIX + "reader plain 0 0 0 0 0;");
        for (int from = 0; from < 6; from++) {
            for (int to = 0; to < 6; to++) {
                int walls = Math.abs(from - to) + 1;
                for (int k : new int[] {0, walls - 1}) {
                    int wall = from <= to ? from + k : from - k;
                    due.is("read(0, " + from + ", " + to + ", " + k + ")", x.read(0, from, to, k), wall < 5 ? wall : -1);
                }
                due.is("one beyond " + from + " to " + to, x.read(0, from, to, walls), Due.NONE);
                due.is("one below " + from + " to " + to, x.read(0, from, to, -1), Due.BAD);
            }
        }
        due.is("most", x.read(0, 0, 5, MAX), Due.NONE);
        due.is("least", x.read(0, 0, 5, Integer.MIN_VALUE), Due.BAD);
        PalmTastes y = Due.on("wall 9 1 0 0 0;".repeat(8) + "reader plain 0 0 0 0 0;");
        int[] up = {0, 0, 0, 0, 0, 0, 0, 1};
        for (int k = 0; k < 8; k++) due.is("eight walls, at " + k, y.read(0, 0, 7, k), up[k]);
        for (int k = 0; k < 8; k++) due.is("eight walls down, at " + k, y.read(0, 7, 0, k), up[k]);
        due.is("a ninth", y.read(0, 0, 7, 8), Due.NONE);
    }

    /** "-1: nothing" */
    private static void readNothing() {
        for (String sort : SORTS) {
            PalmTastes x = Due.on("wall 0 0 0 0 0;wall 5 0 0 0 0;wall 0 5 0 0 0;reader " + sort + " 0 0 9 9 9;reader " + sort + " 5 5 5 5 5;");
            due.is(sort, x.read(0, 0, 0, 0), -1);
            due.is(sort + ", behind it something", x.read(0, 0, 1, 1), sort.equals("fever") ? 1 : 0);
            due.is(sort + " who is used to it", x.read(1, 1, 1, 0), -1);
        }
    }

    /** "at which WALL of a WALK (by its place, 0 on) he first READS other than a row tells; NONE" */
    private static void wrongAtItsPlace() {
        PalmTastes x = Due.on(SIX + "reader plain 0 0 0 0 0;");
        Due.row(x, 0, 0, 1, 2, 3, 4, -1);
        Due.row(x, 1, -1, 4, 3, 2, 1, 0);
        due.is("right up", x.wrong(0, 0, 5, 0), Due.NONE);
        due.is("right down", x.wrong(0, 5, 0, 1), Due.NONE);
        for (int k = 5; k >= 0; k--) {
            x.set(0, k, (k + 1) % 5);
            x.set(1, k, (6 - k) % 5);
            due.is("wrong from " + k + " on, up", x.wrong(0, 0, 5, 0), k);
            due.is("wrong from " + k + " on, down", x.wrong(0, 5, 0, 1), k);
        }
        for (int wall = 0; wall < 6; wall++) {
            for (int told = -1; told < 5; told++) {
                Due.row(x, 2, told);
                int reads = wall < 5 ? wall : -1;
                due.is("one wall, told " + told, x.wrong(0, wall, wall, 2), told == reads ? Due.NONE : 0);
            }
        }
    }

    /** "(an ITEM may be -1: nothing)"; one of 5 may not, nor one of -2. */
    private static void wrongToldNothing() {
        PalmTastes x = Due.on("wall 0 0 0 0 9;wall 0 0 0 0 0;reader plain 0 0 0 0 0;");
        int[] items = {-3, -2, -1, 0, 4, 5, 6, 127, -128};
        for (int item : items) {
            Due.row(x, 0, item, -1);
            Due.row(x, 1, 4, item);
            boolean flavour = item >= -1 && item <= 4;
            due.is("told " + item + " where he reads clove", x.wrong(0, 0, 1, 0), !flavour ? Due.BAD : item == 4 ? Due.NONE : 0);
            due.is("told " + item + " where he reads nothing", x.wrong(0, 0, 1, 1), !flavour ? Due.BAD : item == -1 ? Due.NONE : 1);
            Due.row(x, 2, 0, item);
            due.is("wrong already ahead of " + item, x.wrong(0, 0, 1, 2), !flavour ? Due.BAD : 0);
            boolean spiced = item >= 0 && item <= 4;
            due.is("spice of " + item, x.spice(0, 0, 1, 2, 0) == Due.BAD ? 1 : 0, spiced ? 0 : 1);
            due.is("both of " + item, x.both(0, 0, 1, 2) == Due.BAD ? 1 : 0, spiced ? 0 : 1);
        }
    }

    /** "a row tells as many ITEMS as there are WALLS on the WALK, from its beginning on": more are not looked at. */
    private static void asManyItemsAsWalls() {
        for (int items = 0; items <= 40; items += items < 10 ? 1 : 30) {
            PalmTastes x = Due.on(SIX + "wall 9 0 0 0 0;wall 9 0 0 0 0;reader plain 0 0 0 0 0;");
            for (int walls = 1; walls <= 8; walls++) {
                x.row(0, 2, items);
                // Items behind those that are told may be anything.
                for (int i = walls; i < items && i < walls + 2; i++) x.set(0, i, 1000);
                boolean refused = items < walls;
                due.is(items + " items, " + walls + " walls up", x.wrong(0, 0, walls - 1, 0), refused ? Due.PLACE : walls > 1 ? 1 : Due.NONE);
                due.is("down", x.wrong(0, 7, 8 - walls, 0), refused ? Due.PLACE : walls > 2 ? 2 : Due.NONE);
                due.is("spice", x.spice(0, 0, walls - 1, 0, 0), refused ? Due.PLACE : 0);
                due.is("both", x.both(0, walls - 1, 0, 0) == Due.PLACE ? 1 : 0, refused ? 1 : 0);
            }
        }
    }

    /** "the fewest WALKS of the same way, one behind another (2 to 20)": a palm settles by the tenth, so none is later. */
    private static void fewestWalks() {
        for (int walks = 2; walks <= 10; walks++) {
            // Nothing is felt until he is used to it by so much less.
            String text = "wall 0 0 0 0 " + (11 - walks) + ";reader plain 0 0 0 0 9;reader fever 0 0 0 0 9;reader child 0 0 0 0 9;";
            for (int r = 0; r < 3; r++) due.is("often of " + walks, Due.on(text).often(r, 0, 0), walks);
            String waxed = "wall 0 0 0 0 " + (15 - walks) + ";reader wax 0 0 0 0 9;";
            due.is("often of " + walks + " with wax", Due.on(waxed).often(0, 0, 0), walks);
        }
        PalmTastes x = Due.on("wall 0 0 0 0 0;wall 30 0 0 0 0;wall 0 0 0 0 4;reader plain 9 9 9 9 9;reader wax 9 9 9 9 9;");
        due.is("nothing, all along", x.often(0, 0, 0), Due.NONE);
        due.is("sweet, all along", x.often(0, 1, 1), Due.NONE);
        due.is("0 at least of 4 with wax", x.often(1, 2, 2), Due.NONE);
        due.is("nothing changes", x.reader(0, 0), 9);
    }

    /** "of which the last is READ other than the first one at some WALL": the first, one between, the last. */
    private static void atSomeWall() {
        String faint = "wall 0 0 0 3 0;", strong = "wall 0 30 0 0 0;";
        String reader = "reader plain 0 0 0 5 0;";
        due.is("the last", Due.on(strong + strong + faint + reader).often(0, 0, 2), 2);
        due.is("the first", Due.on(faint + strong + strong + reader).often(0, 0, 2), 2);
        due.is("one between", Due.on(strong + faint + strong + reader).often(0, 0, 2), 2);
        due.is("down", Due.on(strong + strong + faint + reader).often(0, 2, 0), 2);
        due.is("none on the way", Due.on(strong + strong + faint + reader).often(0, 0, 1), Due.NONE);
    }

    /** "one behind another": the second begins with the AFTERTASTE that the first one leaves. */
    private static void oneBehindAnother() {
        String readers = "reader scholar 0 0 0 0 0;reader scholar 2 0 0 0 0;reader scholar 1 0 0 0 0;";
        PalmTastes x = Due.on("wall 3 0 0 0 0;wall 0 0 0 0 0;" + readers);
        due.is("1 is felt the second time", x.often(0, 0, 0), Due.NONE);
        due.is("0 less 1 the second time", x.often(1, 0, 0), 2);
        due.is("0 is felt the second time", x.often(2, 0, 0), 2);
        due.is("behind a wall of nothing", x.often(2, 0, 1), Due.NONE);
        due.is("ahead of a wall of nothing", x.often(2, 1, 0), Due.NONE);
        PalmTastes y = Due.on("wall 2 1 0 0 0;reader scholar 0 0 0 0 0;reader scholar 9 0 0 0 0;");
        due.is("bitter the second time", y.often(0, 0, 0), 2);
        y.walk(1, 0, 0);
        due.is("nothing the first time, bitter the second", y.often(1, 0, 0), 2);
    }

    /** "WALKS of the same way": of each way on eight walls, up, down, of one; each wall is held against itself. */
    private static void oftenOnEachWay() {
        StringBuilder walls = new StringBuilder();
        for (int w = 0; w < 8; w++) {
            walls.append("wall");
            for (int f = 0; f < 5; f++) walls.append(' ').append(f == w % 5 ? 30 : 0);
            walls.append(';');
        }
        for (String sort : SORTS) {
            PalmTastes x = Due.on(walls + "reader " + sort + " 0 0 0 0 0;");
            for (int way = 0; way < 64; way++) {
                due.is(sort + " reads alike from " + way / 8 + " to " + way % 8, x.often(0, way / 8, way % 8), Due.NONE);
            }
        }
        // Up to the faint wall alone he is used to sweet by 8 as late as this.
        int[] upToIt = {9, 5, 3, 3, 2, 2, 2, 2};
        for (int faint = 0; faint < 8; faint++) {
            // Of sweet by 10 he feels 1 at least on the first walk; on the second he is used to it by 8 at least, 2 less.
            PalmTastes x = Due.on("wall 30 0 0 0 0;".repeat(faint) + "wall 10 0 0 0 0;" + "wall 30 0 0 0 0;".repeat(7 - faint)
                + "reader plain 0 0 0 0 0;reader fever 0 0 0 0 0;");
            for (int r = 0; r < 2; r++) {
                due.is("up, wall " + faint + " is faint", x.often(r, 0, 7), 2);
                due.is("down, wall " + faint + " is faint", x.often(r, 7, 0), 2);
                due.is("up to it", x.often(r, 0, faint), upToIt[faint]);
                if (faint > 0) due.is("up to the one ahead of it", x.often(r, 0, faint - 1), Due.NONE);
                if (faint < 7) due.is("down to the one behind it", x.often(r, 7, faint + 1), Due.NONE);
            }
        }
    }

    private static int spice(String text, int flavour) {
        PalmTastes x = Due.on(text);
        Due.row(x, 0, flavour);
        return x.spice(0, 0, 0, 0, 0);
    }

    /** "as little as can be .. must be PAINTED": none where he tastes it; one more than an earlier one, as much as a later one. */
    private static void asLittleAsCanBe() {
        for (String sort : new String[] {"plain", "child", "scholar", "wax"}) {
            String reader = "reader " + sort + " 0 0 0 0 0;";
            int wax = sort.equals("wax") ? 4 : 0;
            for (int f = 0; f < 5; f++) {
                due.is(sort + ": 1 is felt", spice("wall 0 0 0 0 0;" + reader, f), 1 + wax);
                due.is(sort + ": 9 of all", spice("wall 9 9 9 9 9;" + reader, f), f == 0 ? 0 : 1);
                StringBuilder less = new StringBuilder("wall");
                StringBuilder more = new StringBuilder("wall");
                for (int g = 0; g < 5; g++) {
                    less.append(' ').append(g == f ? 8 : 9);
                    more.append(' ').append(g == f ? 10 : 9);
                }
                due.is(sort + ": one less", spice(less + ";" + reader, f), f == 0 ? 1 : 2);
                due.is(sort + ": one more", spice(more + ";" + reader, f), 0);
            }
        }
        due.is("used to it", spice("wall 0 5 0 0 0;reader plain 3 0 0 0 0;", 0), 8);
        due.is("used to the other", spice("wall 0 5 0 0 0;reader plain 0 3 0 0 0;", 0), 2);
        PalmTastes x = Due.on("wall 5 4 0 0 0;reader scholar 0 0 0 0 0;");
        Due.row(x, 0, 0);
        due.is("none", x.spice(0, 0, 0, 0, -1), 0);
        x.walk(0, 0, 0);
        due.is("2 more of his aftertaste", x.spice(0, 0, 0, 0, -1), 1);
    }

    /** "(so that it is 30 strong at most)" */
    private static void atMostThirty() {
        due.is("30 over 29 of an earlier one", spice("wall 29 5 0 0 0;reader plain 0 0 0 0 0;", 1), 25);
        due.is("31 over 30 of an earlier one", spice("wall 30 5 0 0 0;reader plain 0 0 0 0 0;", 1), Due.NONE);
        due.is("30 over 30 of a later one", spice("wall 5 30 0 0 0;reader plain 0 0 0 0 0;", 0), 25);
        due.is("30, used by 1", spice("wall 0 29 0 0 0;reader plain 1 0 0 0 0;", 0), 30);
        due.is("31, used by 1", spice("wall 0 30 0 0 0;reader plain 1 0 0 0 0;", 0), Due.NONE);
        due.is("30 by a child", spice("wall 29 0 0 0 0;reader child 0 0 0 0 0;", 4), 30);
        due.is("31 by a child", spice("wall 30 0 0 0 0;reader child 0 0 0 0 0;", 4), Due.NONE);
        due.is("30 with wax", spice("wall 29 0 0 0 0;reader wax 0 0 0 0 0;", 4), 30);
        due.is("31 with wax", spice("wall 30 0 0 0 0;reader wax 0 0 0 0 0;", 4), Due.NONE);
        due.is("30 already", spice("wall 29 0 0 0 30;reader wax 0 0 0 0 0;", 4), 0);
        PalmTastes x = Due.on("wall 0 0 0 0 0;reader plain 9 9 9 9 9;");
        Due.row(x, 0, 2);
        due.is("used by 9", x.spice(0, 0, 0, 0, 0), 10);
    }

    /** "NONE: it cannot be at one of them": the first, the last, whichever is asked. */
    private static void cannotBeAtOne() {
        for (int at = 0; at < 3; at++) {
            StringBuilder text = new StringBuilder();
            for (int w = 0; w < 3; w++) text.append(w == at ? "wall 30 0 0 0 0;" : "wall 0 0 0 0 0;");
            PalmTastes x = Due.on(text + "reader plain 0 0 0 0 0;reader plain 1 0 0 0 0;");
            Due.row(x, 0, 1, 2, 3);
            for (int k = -1; k <= 3; k++) due.is("not at " + at + ", asked of " + k, x.spice(0, 0, 2, 0, k), Due.NONE);
            due.is("its finding", x.status(), 0);
            due.is("by one who is used to sweet", x.spice(1, 0, 2, 0, -1), at == 0 ? 30 + 1 + 1 : Due.NONE);
        }
    }

    /** "what a row tells for its WALLS, one behind the other"; "how much in all; at the k-th WALL" */
    private static void oneBehindTheOther() {
        PalmTastes x = Due.on("wall 0 0 0 0 0;".repeat(8) + "reader plain 0 0 0 0 0;reader scholar 0 0 0 0 0;");
        x.row(0, 0, 8);
        int[] plain = {1, 4, 5, 6, 7, 8, 9, 10};
        int[] scholar = {1, 3, 3, 3, 3, 3, 3, 3};
        int inAll = 0;
        for (int k = 0; k < 8; k++) {
            inAll += plain[k];
            due.is("plain, at " + k, x.spice(0, 0, 7, 0, k), plain[k]);
            due.is("plain, down, at " + k, x.spice(0, 7, 0, 0, k), plain[k]);
            due.is("scholar, at " + k, x.spice(1, 0, 7, 0, k), scholar[k]);
            due.is("in all of " + (k + 1), x.spice(0, 0, k, 0, -1), inAll);
        }
        due.is("at a ninth", x.spice(0, 0, 7, 0, 8), Due.NONE);
        due.is("at -2", x.spice(0, 0, 7, 0, -2), Due.BAD);
    }

    /** "the one FLAVOUR that he is to TASTE": of a fever's sweet that is bitter, of his bitter sweet. */
    private static void spiceOfAFever() {
        int[] tastes = {1, 0, 2, 3, 4};
        for (int told = 0; told < 5; told++) {
            for (int there = 0; there < 5; there++) {
                StringBuilder wall = new StringBuilder("wall");
                for (int f = 0; f < 5; f++) wall.append(' ').append(f == there ? 9 : 0);
                int flavour = tastes[told];
                int want = there == flavour ? 0 : there < flavour ? 10 : 9;
                due.is("told " + told + " where there is " + there, spice(wall + ";reader fever 0 0 0 0 0;", told), want);
            }
        }
    }

    /** "on each WALL the more of what SPICE has there for the WALK, and for the one back, his palm as it is now each time" */
    private static void moreOfBoth() {
        PalmTastes x = Due.on("wall 0 0 0 0 0;".repeat(8) + "reader plain 0 0 0 0 0;reader plain 5 0 0 0 0;reader scholar 0 0 0 0 0;");
        x.row(0, 0, 8);
        int[] plain = {1, 4, 5, 6, 7, 8, 9, 10};
        for (int walls = 1; walls <= 8; walls++) {
            int both = 0;
            for (int k = 0; k < walls; k++) both += Math.max(plain[k], plain[walls - 1 - k]);
            due.is("up, of " + walls, x.both(0, 0, walls - 1, 0), both);
            due.is("down, of " + walls, x.both(0, walls - 1, 0, 0), both);
            due.is("a scholar of " + walls, x.both(2, 0, walls - 1, 0), walls == 1 ? 1 : walls == 2 ? 6 : 3 * walls);
        }
        due.is("one wall is as on the walk alone", x.both(1, 4, 4, 0), x.spice(1, 4, 4, 0, 0));
        PalmTastes y = Due.on("wall 9 0 0 0 0;wall 0 0 0 0 0;reader plain 0 0 0 0 0;");
        Due.row(y, 0, 0, 1);
        due.is("there", y.spice(0, 0, 1, 0, -1), 1);
        due.is("both: at wall 0 none, at wall 1 bitter of 1", y.both(0, 0, 1, 0), 1);
        Due.row(y, 1, 1, 0);
        due.is("down, each wall being told the same", y.both(0, 1, 0, 1), 1);
        due.is("up, each wall being told another", y.both(0, 0, 1, 1), 10 + 1);
    }

    /** "NONE: there is no SPICE for one of both" */
    private static void noneForOneOfBoth() {
        PalmTastes x = Due.on("wall 30 29 0 0 0;wall 30 30 0 0 0;reader plain 0 0 0 0 0;");
        Due.row(x, 0, 0, 1);
        Due.row(x, 1, 1, 0);
        due.is("there is one up", x.spice(0, 0, 1, 0, -1), 0);
        due.is("none down", x.spice(0, 1, 0, 1, -1), Due.NONE);
        due.is("none for both", x.both(0, 0, 1, 0), Due.NONE);
        due.is("nor from the other end", x.both(0, 1, 0, 1), Due.NONE);
        due.is("its finding", x.status(), 0);
        PalmTastes z = Due.on("wall 30 0 0 0 0;reader plain 0 0 0 0 0;");
        Due.row(z, 0, 1);
        due.is("none for either", z.both(0, 0, 0, 0), Due.NONE);
    }

    /** "ORDER of a strength (1 to 30): the k-th FLAVOUR (k 0 to 4)" */
    private static void toldStrength() {
        PalmTastes x = Due.on("wall 0 0 0 0 0;reader plain 0 0 0 0 0;reader plain 9 9 9 9 9;");
        for (int strong = 1; strong <= 30; strong++) {
            for (int k = 0; k < 5; k++) {
                due.is("order(0, " + strong + ", " + k + ")", x.order(0, strong, k), k);
                due.is("order(1, " + strong + ", " + k + ")", x.order(1, strong, k), strong < 10 ? Due.NONE : k);
            }
        }
        due.is("strength 0", x.order(0, 0, 0), Due.BAD);
        due.is("strength 31", x.order(0, 31, 0), Due.BAD);
        due.is("k -1", x.order(0, 30, -1), Due.BAD);
        due.is("k 5", x.order(0, 30, 5), Due.BAD);
    }

    private static void order(String palm, int strong, String order) {
        PalmTastes x = Due.on("wall 0 0 0 0 0;reader plain " + palm + ";");
        for (int k = 0; k < 5; k++) {
            int want = order.isEmpty() ? Due.NONE : order.charAt(k) - '0';
            due.is("order of " + palm + " by " + strong + ", " + k, x.order(0, strong, k), want);
        }
    }

    /** "the first order of FLAVOURS 0 to 4, by numbers, in which a READER would TASTE all of them .., one behind the other" */
    private static void firstOrder() {
        order("0 0 0 0 0", 1, "01234");
        order("1 0 0 0 0", 1, "10234");
        order("4 0 0 0 0", 1, "12340");
        order("0 1 2 3 4", 1, "01234");
        order("4 3 2 1 0", 1, "43210");
        order("4 3 2 1 0", 2, "32104");
        order("1 1 1 1 0", 1, "40123");
        order("0 4 4 0 0", 3, "03124");
        order("5 4 4 0 0", 3, "34102");
        order("0 9 9 9 0", 30, "01234");
    }

    /** "NONE": the one that is left would not be tasted at the last either, or none is tasted at first. */
    private static void noOrder() {
        order("5 0 0 0 0", 1, "");
        order("1 1 1 1 1", 1, "");
        order("3 3 0 0 0", 1, "23401");
        order("4 4 0 0 0", 1, "");
        order("2 2 2 2 0", 1, "");
        order("2 2 2 1 0", 1, "43012");
        order("0 0 9 0 0", 5, "");
        order("0 0 9 0 0", 6, "01342");
        PalmTastes x = Due.on("wall 30 0 0 0 0;reader scholar 0 0 0 0 0;reader wax 0 0 0 0 0;reader scholar 0 0 1 0 0;");
        for (int r = 0; r < 3; r++) x.walk(r, 0, 0);
        due.is("the aftertaste is not first", x.order(0, 1, 0), 1);
        due.is("but second", x.order(0, 1, 1), 0);
        due.is("or first, if it is as strong as 3", x.order(0, 3, 0), 0);
        due.is("4 with wax", x.order(1, 4, 0), Due.NONE);
        due.is("5 with wax", x.order(1, 5, 0), 1);
        due.is("a scholar who is used to it", x.order(2, 1, 0), Due.NONE);
    }

    /** "if a FLAVOUR on a WALL was written so many DAYS ago (0 to 20)": of each strength, each number of days. */
    private static void daysAgo() {
        for (int now = 0; now <= 30; now++) {
            PalmTastes x = Due.on("wall " + now + " " + now + " " + now + " " + now + " " + now + ";");
            for (int days = 0; days <= 20; days++) {
                for (int fades = 1; fades <= 3; fades += 2) {
                    int least = Due.NONE;
                    int most = Due.NONE;
                    for (int then = 30; then >= 0; then--) {
                        if (Math.max(0, then - fades * days) != now) continue;
                        least = then;
                        if (most == Due.NONE) most = then;
                    }
                    int flavour = fades == 3 ? 2 : days % 4 < 2 ? days % 4 : days % 4 + 1;
                    String call = "written(0, " + flavour + ", " + days + ", ";
                    due.is(now + " now: " + call + "0)", x.written(0, flavour, days, 0), least);
                    due.is(now + " now: " + call + "1)", x.written(0, flavour, days, 1), most);
                }
            }
            due.is("21 days", x.written(0, 0, 21, 0), Due.BAD);
            due.is("-1 days", x.written(0, 0, -1, 0), Due.BAD);
        }
    }

    /** "how strong it was then (0 to 30), at least, at most; NONE: it cannot be so" */
    private static void howStrongThen() {
        PalmTastes x = Due.on("wall 10 11 27 0 28;wall 30 30 30 1 0;");
        due.is("30 of 10, 20 days ago", x.written(0, 0, 20, 0), 30);
        due.is("31 of 11, 20 days ago", x.written(0, 1, 20, 0), Due.NONE);
        due.is("30 of 11, 19 days ago", x.written(0, 1, 19, 1), 30);
        due.is("30 of sour 27, a day ago", x.written(0, 2, 1, 0), 30);
        due.is("33 of sour 27, 2 days ago", x.written(0, 2, 2, 0), Due.NONE);
        due.is("0 at least of what is gone", x.written(0, 3, 20, 0), 0);
        due.is("20 at most of what is gone", x.written(0, 3, 20, 1), 20);
        due.is("0 of what is gone today", x.written(0, 3, 0, 1), 0);
        due.is("30 today", x.written(1, 0, 0, 1), 30);
        due.is("30 yesterday", x.written(1, 0, 1, 1), Due.NONE);
        due.is("1 of salt, 20 days ago, at least", x.written(1, 3, 20, 0), 21);
        due.is("1 of salt, 20 days ago, at most", x.written(1, 3, 20, 1), 21);
        due.is("what 2", x.written(0, 0, 0, 2), Due.BAD);
        due.is("what -1", x.written(0, 0, 0, -1), Due.BAD);
    }

    /** "and there was no RAIN": what days there were is not looked at. */
    private static void noRain() {
        PalmTastes x = Due.on("wall 30 0 30 0 0;");
        due.is("a day with rain", x.day(5), 0);
        due.is("sweet of 24, a day ago", x.written(0, 0, 1, 0), 25);
        due.is("sweet of 24, 6 days ago", x.written(0, 0, 6, 0), 30);
        due.is("sour of 22, 2 days ago", x.written(0, 2, 2, 0), 28);
        due.is("sour of 22, 3 days ago", x.written(0, 2, 3, 0), Due.NONE);
    }

    /** "on which sour is stronger than 30 would be yet behind as many DAYS, without RAIN" */
    private static void behindSoManyDays() {
        for (int days = 0; days <= 99; days++) {
            int yet = Math.max(0, 30 - 3 * days);
            PalmTastes x = Due.on("wall 30 30 " + yet + " 30 30;wall 0 0 " + Math.min(30, yet + 1) + " 0 0;wall 0 0 " + Math.max(0, yet - 1) + " 0 0;");
            Due.row(x, 0, days, days, days);
            due.is("behind " + days + " days", x.forged(0, 0), days == 0 ? 0 : 2);
        }
        PalmTastes y = Due.on("wall 0 0 30 0 0;");
        for (int item : new int[] {-128, -2, -1, 100, 101, 127}) {
            Due.row(y, 0, item);
            y.copy(0, 0, 0, 0, 2);
            due.is("an item of " + item, y.forged(0, 0), Due.BAD);
            due.is("the finding ahead of it", y.status(), 2);
        }
        for (int item : new int[] {0, 1, 98, 99}) {
            Due.row(y, 0, item);
            y.copy(0, 0, 0, 0, 2);
            due.is("an item of " + item, y.forged(0, 0), item == 0 ? 0 : 1);
            due.is("no finding", y.status(), 0);
        }
        y.row(1, 2, 1);
        for (int item : new int[] {MAX, Integer.MIN_VALUE, 1 << 30, 715827883}) {
            y.set(1, 0, item);
            due.is("an int of " + item, y.forged(1, 0), Due.BAD);
        }
    }

    /** "as many ITEMS as there are WALLS, of a ROW from i on" */
    private static void fromIOn() {
        for (int walls = 1; walls <= 8; walls++) {
            PalmTastes x = Due.on("wall 0 0 30 0 0;".repeat(walls));
            for (int items : new int[] {walls - 1, walls, walls + 1, 40}) {
                x.row(0, 0, items);
                due.is("from 0", x.forged(0, 0), items < walls ? Due.PLACE : 0);
                due.is("the last place", x.forged(0, items - walls), items < walls ? Due.PLACE : 0);
                due.is("one beyond", x.forged(0, items - walls + 1), Due.PLACE);
                due.is("one below 0", x.forged(0, -1), Due.PLACE);
                due.is("behind all", x.forged(0, items), Due.PLACE);
            }
            x.row(1, 1, walls + 2);
            x.set(1, 0, 100);
            x.set(1, walls + 1, -1);
            due.is("an item ahead of it, one behind it", x.forged(1, 1), 0);
            due.is("from the one ahead of it on", x.forged(1, 0), Due.BAD);
            due.is("to the one behind it", x.forged(1, 2), Due.BAD);
        }
    }

    /** "WALLS (bits)" */
    private static void eachWallABit() {
        for (int wall = 0; wall < 8; wall++) {
            PalmTastes x = Due.on("wall 0 0 30 0 0;".repeat(8));
            x.row(0, 0, 8);
            due.is("none", x.forged(0, 0), 0);
            x.set(0, wall, 1);
            due.is("wall " + wall, x.forged(0, 0), 1 << wall);
            for (int i = 0; i < 8; i++) x.set(0, i, i == wall ? 0 : 99);
            due.is("all but " + wall, x.forged(0, 0), 255 - (1 << wall));
            x.set(0, wall, 99);
            due.is("all", x.forged(0, 0), 255);
        }
    }
}
