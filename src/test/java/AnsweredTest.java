import java.util.List;

/**
 * What each call that is answered makes another, and that nothing else is another then, in the order of the promises
 * ("FORETOLD (nothing changes, all palms as they are)"; "IMAGES and ROWS stay"; "ACTS .., each can be undone").
 */
public final class AnsweredTest {
    private static final Due due = new Due();
    private static final Twins on = new Twins(due, "", AnsweredTest::standing);

    public static void main(String[] args) {
        standsAsTold();
        rows();
        tape();
        acts();
        actsUndone();
        actsByWhichNothingBecomesAnother();
        asked();
        foretold();
        foretoldNone();
        foretoldOfARow();
        images();
        kindsAndAsks();
        due.end("AnsweredTest");
    }

    /** As in RefusedTest, with both images, 5 acts, both palms behind a walk; the tape is another street. */
    private static void standing(PalmTastes x) {
        RefusedTest.standing(x);
        x.image(1);
        x.walk(0, 2, 0);
        x.walk(1, 2, 0);
    }

    private static PalmTastes standing() {
        PalmTastes x = new PalmTastes();
        standing(x);
        return x;
    }

    private static void are(String what, int[] got, int... want) {
        for (int i = 0; i < want.length; i++) due.is(what + " " + i, got[i], want[i]);
    }

    private static int[] palm(PalmTastes x, int reader) {
        int[] palm = new int[6];
        for (int i = 0; i < 6; i++) palm[i] = x.reader(reader, i);
        return palm;
    }

    /** By hand: what Whole asks changes nothing itself that it asks for later. */
    private static void standsAsTold() {
        PalmTastes x = standing();
        for (int again = 0; again < 3; again++) {
            due.is("fault()", x.fault(), 2);
            due.is("status()", x.status(), 3);
            int[] trace = {23, 20, 14, 13, 10};
            for (int i = 0; i <= 5; i++) due.is("trace(" + i + ")", x.trace(i), i < 5 ? trace[i] : Due.NONE);
            int[] counts = {7, 3, 2, 1, 5, 39 + 35, 15};
            for (int what = 0; what < 7; what++) due.is("count(" + what + ")", x.count(what), counts[what]);
            int[] walls = {7, 6, 26, 0, 0, 1, 6, 0, 28, 0, 0, 0, 0, 0, 0};
            for (int i = 0; i < 15; i++) due.is("wall(" + i / 5 + ", " + i % 5 + ")", x.wall(i / 5, i % 5), walls[i]);
            due.is("kind(0)", x.kind(0), 1);
            due.is("kind(1)", x.kind(1), 5);
        }
        // Reader 0 on walls 0, 1, 2 tasted sour, salt, nothing, then nothing, salt, sour; reader 1 nothing, salt, sour.
        are("palm 0,", palm(x, 0), 0, 0, 1, 0, 3, 2);
        are("palm 1,", palm(x, 1), 0, 0, 1, 0, 0, 2);
        for (int left = 4; left >= 0; left--) due.is("undo()", x.undo(), left);
        due.is("undo() of none", x.undo(), Due.STATE);
        due.is("as it was read", x.count(5), 48 + 41);
        due.is("restore(1)", x.restore(1), 1);
        due.is("as image 1 kept it", x.count(5), 74);
        due.is("restore(0)", x.restore(0), 1);
        due.is("as image 0 kept it", x.count(5), 48 + 41);
        due.is("street()", x.street(), 1);
        due.is("as the tape tells it", x.count(5), 15);
        due.is("row 0", Whole.items(x, 0).equals(List.of(0, 1, 2)) ? 1 : 0, 1);
        due.is("row 1", Whole.items(x, 1).equals(List.of(3, 4)) ? 1 : 0, 1);
        due.is("row 1 is of shorts", x.set(1, 0, 40000), 40000 - 65536);
        due.is("row 2", x.drop(2), 0);
    }

    private static void rows() {
        on.changes("row(7, 0, 3)", x -> x.row(7, 0, 3), 3, "row 7", "rows", "status");
        on.changes("in place: row(0, 2, 3)", x -> x.row(0, 2, 3), 3, "row 0", "status");
        on.changes("set(0, 1, 4)", x -> x.set(0, 1, 4), 4, "row 0", "status");
        on.changes("set(0, 1, 1), which it is", x -> x.set(0, 1, 1), 1, "status");
        on.changes("copy(0, 0, 3, 0, 3)", x -> x.copy(0, 0, 3, 0, 3), 3, "row 3", "status");
        on.changes("copy(0, 0, 0, 1, 2)", x -> x.copy(0, 0, 0, 1, 2), 2, "row 0", "status");
        on.changes("copy(0, 0, 0, 1, 0)", x -> x.copy(0, 0, 0, 1, 0), 0, "status");
        on.changes("drop(1)", x -> x.drop(1), 2, "row 1", "rows", "status");
    }

    /** "The tape, empty then, is read"; "A STREET that is read stands in place of the one before .. IMAGES and ROWS stay." */
    private static void tape() {
        on.changes("feed(32, 1)", x -> x.feed(32, 1), 16, "tape");
        on.changes("street()", PalmTastes::street, 1, "acts", "days", "palm 0", "palm 1", "readers", "strong", "tape", "wall 0",
            "wall 1", "wall 2", "walls");
        Twins faulty = new Twins(due, "a fault on the tape: ", x -> {
            standing(x);
            x.feed('!', 1);
        });
        faulty.changes("street()", PalmTastes::street, -1000115, "fault", "tape");
        Twins same = new Twins(due, "the same fault as before: ", x -> {
            standing(x);
            Due.feed(x, "wall 31");
        });
        same.changes("street()", PalmTastes::street, -1000120, "tape");
    }

    private static void acts() {
        on.changes("paint(1, 0, 3)", x -> x.paint(1, 0, 3), 4, "acts", "strong", "wall 1");
        on.changes("paint(2, 4, 30)", x -> x.paint(2, 4, 30), 30, "acts", "strong", "wall 2");
        on.changes("day(0)", x -> x.day(0), 1, "acts", "days", "strong", "wall 0", "wall 1");
        on.changes("day(5)", x -> x.day(5), 3, "acts", "days", "strong", "wall 0", "wall 1");
        on.changes("walk(0, 0, 2)", x -> x.walk(0, 0, 2), 2, "acts", "palm 0");
        on.changes("walk(1, 0, 1)", x -> x.walk(1, 0, 1), 2, "acts", "palm 1");
        on.changes("as ahead of it: walk(1, 2, 0)", x -> x.walk(1, 2, 0), 2, "acts");
        on.changes("rest(0)", x -> x.rest(0), 4, "acts", "palm 0");
        on.changes("rest(1)", x -> x.rest(1), 1, "acts", "palm 1");
        on.changes("undo(), of a walk", PalmTastes::undo, 4, "acts", "palm 1");
        Twins painted = new Twins(due, "painted: ", x -> {
            standing(x);
            x.paint(2, 4, 30);
        });
        painted.changes("undo()", PalmTastes::undo, 5, "acts", "strong", "wall 2");
        Twins faded = new Twins(due, "a day: ", x -> {
            standing(x);
            x.day(5);
        });
        faded.changes("undo()", PalmTastes::undo, 5, "acts", "days", "strong", "wall 0", "wall 1");
        Twins rested = new Twins(due, "rested: ", x -> {
            standing(x);
            x.rest(0);
        });
        rested.changes("undo()", PalmTastes::undo, 5, "acts", "palm 0");
    }

    /** "each can be undone": then all is as it was ahead of it. */
    private static void actsUndone() {
        for (int wall = 0; wall < 3; wall++) {
            for (int flavour = 0; flavour < 5; flavour++) {
                int w = wall;
                int f = flavour;
                on.changes("paint(" + w + ", " + f + ", 30), undone", x -> x.paint(w, f, 30) - 30 + x.undo(), 5);
            }
        }
        for (int rain = 0; rain <= 5; rain++) {
            int told = rain;
            on.changes("day(" + rain + "), undone", x -> 0 * x.day(told) + x.undo(), 5);
        }
        for (int reader = 0; reader < 2; reader++) {
            int r = reader;
            on.changes("rest(" + r + "), undone", x -> 0 * x.rest(r) + x.undo(), 5);
            for (int way = 0; way < 9; way++) {
                int from = way / 3;
                int to = way % 3;
                on.changes("walk(" + r + ", " + from + ", " + to + "), undone", x -> 0 * x.walk(r, from, to) + x.undo(), 5);
            }
        }
    }

    /** "also such by which nothing becomes another" */
    private static void actsByWhichNothingBecomesAnother() {
        Twins still = new Twins(due, "30 strong, rested: ", x -> {
            standing(x);
            x.paint(0, 2, 30);
            x.rest(0);
        });
        still.changes("paint(0, 2, 30)", x -> x.paint(0, 2, 30), 30, "acts");
        still.changes("walk(0, 2, 2)", x -> x.walk(0, 2, 2), 0, "acts");
        still.changes("rest(0)", x -> x.rest(0), 0, "acts");
        Twins bare = new Twins(due, "nothing written: ", x -> Due.street(x, "wall 0 0 0 0 0;"));
        bare.changes("day(0)", x -> x.day(0), 0, "acts", "days");
    }

    private static void asked() {
        on.changes("wall(0, 2)", x -> x.wall(0, 2), 26);
        on.changes("reader(0, 5)", x -> x.reader(0, 5), 2);
        on.changes("felt(0, 0, 2)", x -> x.felt(0, 0, 2), 26 - 1 - 2);
        on.changes("fault()", PalmTastes::fault, 2);
        on.changes("status()", PalmTastes::status, 3);
        on.changes("trace(0)", x -> x.trace(0), 23);
        on.changes("trace(5)", x -> x.trace(5), Due.NONE);
        int[] counts = {7, 3, 2, 1, 5, 74, 15};
        for (int what = 0; what < 7; what++) {
            int told = what;
            on.changes("count(" + what + ")", x -> x.count(told), counts[what]);
        }
    }

    private static void foretold() {
        on.changes("read(0, 0, 2, 0)", x -> x.read(0, 0, 2, 0), 2);
        on.changes("read(1, 0, 2, 1)", x -> x.read(1, 0, 2, 1), 3);
        on.changes("read(1, 2, 0, 0)", x -> x.read(1, 2, 0, 0), -1);
        on.changes("order(0, 30, 4)", x -> x.order(0, 30, 4), 4);
        on.changes("written(0, 0, 20, 0)", x -> x.written(0, 0, 20, 0), 27);
        on.changes("written(2, 2, 20, 1)", x -> x.written(2, 2, 20, 1), 30);
        Twins faint = new Twins(due, "a faint wall: ", x -> {
            standing(x);
            x.rest(0);
            x.paint(2, 0, 3);
        });
        faint.changes("often(0, 2, 2)", x -> x.often(0, 2, 2), 2);
    }

    private static void foretoldNone() {
        on.changes("read(0, 0, 2, 3)", x -> x.read(0, 0, 2, 3), Due.NONE);
        on.changes("often(1, 0, 2)", x -> x.often(1, 0, 2), Due.NONE);
        on.changes("written(0, 2, 20, 0)", x -> x.written(0, 2, 20, 0), Due.NONE);
        Twins used = new Twins(due, "used to all by 9: ", x -> {
            standing(x);
            x.street();
            Due.street(x, "wall 1 2 3 4 5;reader plain 9 9 9 9 9;reader fever 0 0 0 0 0;");
            Due.feed(x, "wall 5 4 3 2 1;");
            x.day(0);
            x.walk(1, 0, 0);
        });
        for (int k = 0; k < 5; k++) {
            int told = k;
            used.changes("order(0, 9, " + k + ")", x -> x.order(0, 9, told), Due.NONE);
        }
    }

    /** Rows 0: 0 1 2; 3: 0 0 5; 4: -1 0 0: the finding of the setting goes, for there is none. */
    private static void foretoldOfARow() {
        on.changes("wrong(0, 0, 2, 0)", x -> x.wrong(0, 0, 2, 0), 0, "status");
        on.changes("wrong(1, 2, 2, 4)", x -> x.wrong(1, 2, 2, 4), Due.NONE, "status");
        on.changes("spice(1, 2, 2, 0, 0)", x -> x.spice(1, 2, 2, 0, 0), 1, "status");
        on.changes("spice(1, 2, 2, 0, -1)", x -> x.spice(1, 2, 2, 0, -1), 1, "status");
        on.changes("spice(1, 2, 2, 0, 1)", x -> x.spice(1, 2, 2, 0, 1), Due.NONE, "status");
        on.changes("both(1, 2, 2, 0)", x -> x.both(1, 2, 2, 0), 1, "status");
        on.changes("forged(0, 0)", x -> x.forged(0, 0), 0, "status");
        Twins strong = new Twins(due, "a strong wall: ", x -> {
            standing(x);
            x.paint(2, 0, 30);
            Due.row(x, 0, 3, 3, 3);
            x.as(1, 1);
        });
        strong.changes("spice(1, 2, 2, 0, 0)", x -> x.spice(1, 2, 2, 0, 0), Due.NONE, "status");
        strong.changes("both(1, 2, 2, 0)", x -> x.both(1, 2, 2, 0), Due.NONE, "status");
        strong.changes("forged(0, 0)", x -> x.forged(0, 0), 1, "status");
    }

    /** Image 0 is of the street as it was read, image 1 of that behind three acts. */
    private static void images() {
        on.changes("image(0)", x -> x.image(0), 1, "image 0");
        on.changes("image(1)", x -> x.image(1), 1, "image 1");
        on.changes("restore(0)", x -> x.restore(0), 1, "acts", "days", "palm 0", "palm 1", "strong", "wall 0", "wall 1");
        on.changes("restore(1)", x -> x.restore(1), 1, "acts", "palm 0", "palm 1");
        on.changes("image(0), restore(0)", x -> x.image(0) + x.restore(0), 2, "acts", "image 0");
    }

    private static void kindsAndAsks() {
        on.changes("kind(1)", x -> x.kind(1), 5);
        on.changes("as(1, 4)", x -> x.as(1, 4), 1, "status");
        on.changes("ask(0, 0)", x -> x.ask(0, 0), 4 + 0 + 2, "trace");
        on.changes("ask(1, 0)", x -> x.ask(1, 0), 2 * (1 - 100), "trace");
        on.changes("ask(1, 1), as ahead of it", x -> x.ask(1, 1), 1 + 198);
    }
}
