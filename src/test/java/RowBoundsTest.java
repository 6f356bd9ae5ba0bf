import java.util.Arrays;
import java.util.Collections;
import java.util.List;

/** The sentences on rows that name a boundary case (block 1, promises 1 to 5), each with a test of its own. */
public final class RowBoundsTest {
    private static final int MIN = Integer.MIN_VALUE, MAX = Integer.MAX_VALUE;
    private static final Due due = new Due();

    public static void main(String[] args) {
        missingAtFirst();
        rowsByNumber();
        lanes();
        itemsByNumber();
        zeroAtFirst();
        inPlace();
        lowestBits();
        asTheyWereAhead();
        toTheEnds();
        howManyItHad();
        rowsAndStreets();
        due.end("RowBoundsTest");
    }

    private static void items(String what, PalmTastes x, int row, Integer... items) {
        due.same(what, Whole.items(x, row).toString(), Arrays.asList(items).toString());
    }

    /** "ROWS 0 .. 7 are missing (at first)" */
    private static void missingAtFirst() {
        for (int row = 0; row <= 7; row++) {
            due.is("new set(" + row + ", 0, 0)", new PalmTastes().set(row, 0, 0), Due.NULL);
            due.is("new drop(" + row + ")", new PalmTastes().drop(row), Due.NULL);
            due.is("new copy from and to " + row, new PalmTastes().copy(row, 0, row, 0, 0), Due.NULL);
        }
        due.is("new count(0)", new PalmTastes().count(0), 0);
    }

    /** "ROWS 0 .. 7": each is one of its own. */
    private static void rowsByNumber() {
        PalmTastes x = new PalmTastes();
        for (int row = 0; row <= 7; row++) {
            due.is("row(" + row + ", ..)", x.row(row, 0, row + 1), row + 1);
            due.is("rows there", x.count(0), row + 1);
        }
        due.is("row(8, ..)", x.row(8, 0, 1), Due.BAD);
        due.is("row(-1, ..)", x.row(-1, 0, 1), Due.BAD);
        for (int row = 7; row >= 0; row--) {
            due.is("the last place of " + row, x.set(row, row, 1), 1);
            due.is("one beyond it", x.set(row, row + 1, 1), Due.PLACE);
            due.is("drop(" + row + ")", x.drop(row), row + 1);
            due.is("rows there yet", x.count(0), row);
        }
    }

    /** "a LANE (0 bytes, 1 shorts, 2 ints)": rows of one can be copied. */
    private static void lanes() {
        PalmTastes x = new PalmTastes();
        for (int lane = 0; lane <= 2; lane++) {
            due.is("lane " + lane, x.row(lane, lane, 2), 2);
            x.row(3 + lane, lane, 2);
        }
        due.is("lane 3", x.row(6, 3, 2), Due.BAD);
        due.is("lane -1", x.row(6, -1, 2), Due.BAD);
        due.is("rows there", x.count(0), 6);
        for (int a = 0; a < 6; a++) {
            for (int b = 0; b < 6; b++) {
                due.is("copy from " + a + " to " + b, x.copy(a, 0, b, 0, 2), a % 3 == b % 3 ? 2 : Due.STORE);
                due.is("its finding", x.status(), a % 3 == b % 3 ? 0 : 5);
            }
        }
    }

    /** "0 to 40 ITEMS" */
    private static void itemsByNumber() {
        PalmTastes x = new PalmTastes();
        for (int n = 0; n <= 40; n++) {
            due.is("row(2, 1, " + n + ")", x.row(2, 1, n), n);
            due.is("place " + n, x.set(2, n, 3), Due.PLACE);
            due.is("place " + (n - 1), x.set(2, n - 1, 3), n == 0 ? Due.PLACE : 3);
        }
        due.is("41 items", x.row(2, 1, 41), Due.BAD);
        due.is("-1 items", x.row(2, 1, -1), Due.SIZE);
        due.is("40 yet", x.set(2, 39, 4), 4);
        due.is("drop(2)", x.drop(2), 40);
    }

    /** "0 at first" */
    private static void zeroAtFirst() {
        for (int lane = 0; lane <= 2; lane++) {
            PalmTastes x = new PalmTastes();
            x.row(5, lane, 40);
            items("40 items of lane " + lane, x, 5, Collections.nCopies(40, 0).toArray(new Integer[0]));
        }
    }

    /** "in place of what is there": another lane, another number, and 0 again. */
    private static void inPlace() {
        PalmTastes x = new PalmTastes();
        Due.row(x, 1, 1, 2, 3);
        due.is("anew", x.row(1, 2, 4), 4);
        due.is("one row", x.count(0), 1);
        due.is("of ints", x.set(1, 3, 70000), 70000);
        x.set(1, 3, 4);
        items("0 but for that", x, 1, 0, 0, 0, 4);
        Due.row(x, 1, 1, 2, 3);
        x.row(1, 0, 0);
        due.is("none", x.set(1, 0, 1), Due.PLACE);
        x.row(1, 0, 3);
        items("0 behind a shorter one", x, 1, 0, 0, 0);
        Due.row(x, 1, 1, 2, 3);
        x.drop(1);
        x.row(1, 0, 3);
        items("0 behind a drop", x, 1, 0, 0, 0);
    }

    /** "its lowest bits, as many as the LANE has (read with their sign): what it is then" */
    private static void lowestBits() {
        int[] values = {0, 1, -1, 127, 128, 129, 255, 256, 257, -127, -128, -129, -256, -257, 32767, 32768, 32769, 65535, 65536,
            65537, -32767, -32768, -32769, -65536, -65537, MAX, MAX - 1, MIN, MIN + 1, 0x12345678, 0x1234ff80, 0x7fff8000};
        PalmTastes x = new PalmTastes();
        for (int lane = 0; lane <= 2; lane++) x.row(lane, lane, 1);
        for (int v : values) {
            due.is("byte of " + v, x.set(0, 0, v), ((v % 256) + 384) % 256 - 128);
            due.is("short of " + v, x.set(1, 0, v), ((v % 65536) + 98304) % 65536 - 32768);
            due.is("int of " + v, x.set(2, 0, v), v);
        }
        x.set(0, 0, 0x7fffff04);
        items("a byte is kept so", x, 0, 4);
        x.set(1, 0, 0x7fffffff);
        items("a short is kept so", x, 1, -1);
        x.set(2, 0, 0x7fff0004);
        items("an int is kept whole", x, 2, Due.BAD);
    }

    /** "n ITEMS of a from i on come to b from j on, as they were ahead": also where they lie upon one another. */
    private static void asTheyWereAhead() {
        for (int i = 0; i <= 4; i++) {
            for (int j = 0; j <= 4; j++) {
                for (int n = 0; n <= 4 - Math.max(i, j); n++) {
                    Integer[] want = {1, 2, 3, 4};
                    List<Integer> ahead = List.of(1, 2, 3, 4);
                    for (int k = 0; k < n; k++) want[j + k] = ahead.get(i + k);
                    PalmTastes x = new PalmTastes();
                    Due.row(x, 0, 1, 2, 3, 4);
                    due.is("copy(0, " + i + ", 0, " + j + ", " + n + ")", x.copy(0, i, 0, j, n), n);
                    items("then", x, 0, want);
                }
            }
        }
        PalmTastes y = new PalmTastes();
        Due.row(y, 0, 1, 2, 3, 4);
        Due.row(y, 7, -1, -1, 0);
        due.is("to another", y.copy(0, 2, 7, 1, 2), 2);
        items("which has them", y, 7, -1, 3, 4);
        items("the one that they are of stays", y, 0, 1, 2, 3, 4);
    }

    /** "PLACE (i, j, n below 0, or beyond an end)": up to an end is none; none can be copied from or to behind the last. */
    private static void toTheEnds() {
        PalmTastes x = new PalmTastes();
        x.row(0, 0, 40);
        x.row(1, 0, 2);
        x.row(2, 0, 0);
        due.is("40 to itself", x.copy(0, 0, 0, 0, 40), 40);
        due.is("41", x.copy(0, 0, 0, 0, 41), Due.PLACE);
        due.is("the last two", x.copy(0, 38, 1, 0, 2), 2);
        due.is("one beyond", x.copy(0, 39, 1, 0, 2), Due.PLACE);
        due.is("to the last", x.copy(0, 0, 1, 1, 1), 1);
        due.is("to one beyond", x.copy(0, 0, 1, 1, 2), Due.PLACE);
        due.is("none from the end", x.copy(0, 40, 1, 2, 0), 0);
        due.is("none from beyond the end", x.copy(0, 41, 1, 2, 0), Due.PLACE);
        due.is("none to beyond the end", x.copy(0, 40, 1, 3, 0), Due.PLACE);
        due.is("none of none", x.copy(2, 0, 2, 0, 0), 0);
        due.is("one of none", x.copy(2, 0, 1, 0, 1), Due.PLACE);
        due.is("one to none", x.copy(1, 0, 2, 0, 1), Due.PLACE);
        due.is("none from -1", x.copy(0, -1, 1, 0, 0), Due.PLACE);
        due.is("none to -1", x.copy(0, 0, 1, -1, 0), Due.PLACE);
        due.is("-1 of them", x.copy(0, 1, 1, 1, -1), Due.PLACE);
    }

    /** "A ROW is missing from now on: how many ITEMS it had." */
    private static void howManyItHad() {
        PalmTastes x = new PalmTastes();
        for (int n : new int[] {0, 1, 40}) {
            x.row(6, 2, n);
            due.is("drop of " + n, x.drop(6), n);
            due.is("its finding", x.status(), 0);
            due.is("missing", x.drop(6), Due.NULL);
            due.is("its finding", x.status(), 1);
            due.is("no place of it", x.set(6, 0, 0), Due.NULL);
            due.is("nothing to copy", x.copy(6, 0, 6, 0, 0), Due.NULL);
        }
    }

    /** "IMAGES and ROWS stay": behind a street, an image, what is undone. */
    private static void rowsAndStreets() {
        PalmTastes x = new PalmTastes();
        Due.row(x, 0, 1, 2, 3);
        Due.street(x, "wall 1 1 1 1 1;");
        x.image(0);
        Due.row(x, 1, 4);
        x.paint(0, 0, 1);
        x.set(1, 0, 0);
        x.undo();
        x.restore(0);
        due.is("rows there", x.count(0), 2);
        items("row 0", x, 0, 1, 2, 3);
        items("row 1", x, 1, 0);
    }
}
