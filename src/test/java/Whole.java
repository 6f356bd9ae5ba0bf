import java.util.ArrayList;
import java.util.List;

/** All that an object can be asked, each call with its answer, in some 400 calls; it is not left as it was. */
final class Whole {
    /** In the list that of() gives: fault() and status() come first, for some calls change these alone. */
    static final int FAULT = 0, STATUS = 1;

    private final PalmTastes x;
    private final List<String> answers = new ArrayList<>();

    private Whole(PalmTastes x) {
        this.x = x;
    }

    static List<String> of(PalmTastes x) {
        Whole whole = new Whole(x);
        whole.say("fault()", x.fault());
        whole.say("status()", x.status());
        for (int i = 0; i <= 16; i++) whole.say("trace(" + i + ")", x.trace(i));
        whole.street();
        whole.acts();
        for (int k = 0; k < 2; k++) {
            whole.say("restore(" + k + ")", x.restore(k));
            whole.street();
        }
        whole.say("street()", x.street());
        whole.street();
        whole.rows();
        return whole.answers;
    }

    private void say(String call, int answer) {
        answers.add(call + " = " + answer);
    }

    private void street() {
        for (int what = 0; what <= 6; what++) say("count(" + what + ")", x.count(what));
        int walls = x.count(1);
        int readers = x.count(2);
        for (int w = 0; w < walls; w++) {
            for (int f = 0; f < 5; f++) say("wall(" + w + ", " + f + ")", x.wall(w, f));
        }
        for (int r = 0; r < readers; r++) {
            say("kind(" + r + ")", x.kind(r));
            for (int what = 0; what <= 5; what++) say("reader(" + r + ", " + what + ")", x.reader(r, what));
        }
    }

    private void acts() {
        for (int i = 0; i < 25; i++) {
            int left = x.undo();
            say("undo()", left);
            if (left == Due.STATE) return;
            street();
        }
    }

    private void rows() {
        readingStreet();
        for (int row = 0; row < 8; row++) {
            List<Integer> items = items(row);
            for (int i = 0; i < items.size(); i++) say("item " + i + " of row " + row, items.get(i));
            if (!items.isEmpty()) say("set(" + row + ", 0, 40000)", x.set(row, 0, 40000));
            say("drop(" + row + ")", x.drop(row));
        }
    }

    /** A row's items, of which the first is another then, on a street that is another; BAD: one that is not -1 to 4. */
    static List<Integer> items(PalmTastes x, int row) {
        Whole whole = new Whole(x);
        whole.readingStreet();
        return whole.items(row);
    }

    private void readingStreet() {
        x.street();
        Due.street(x, "wall1 0 0 0 0;wall0 1 0 0 0;wall0 0 1 0 0;wall0 0 0 1 0;wall0 0 0 0 1;wall0 0 0 0 0;reader scholar0 0 0 0 0;");
    }

    /** Items cannot be asked for: each is copied to the first place, where wrong() tells what is read alike. */
    private List<Integer> items(int row) {
        List<Integer> items = new ArrayList<>();
        while (items.size() < 40 && x.copy(row, items.size(), row, 0, 1) == 1) items.add(firstItem(row));
        return items;
    }

    private int firstItem(int row) {
        for (int wall = 0; wall <= 5; wall++) {
            int wrong = x.wrong(0, wall, wall, row);
            if (wrong == Due.NONE) return wall < 5 ? wall : -1;
            if (wrong != 0) return wrong;
        }
        return -2;
    }
}
