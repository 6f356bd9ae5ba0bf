import java.util.ArrayList;
import java.util.LinkedHashMap;
import java.util.List;
import java.util.Map;

/** All that an object can be asked, by what the answers tell of, in some 400 calls; it is not left as it was. */
final class Whole {
    private final PalmTastes x;
    private final Map<String, StringBuilder> answers = new LinkedHashMap<>();

    private Whole(PalmTastes x) {
        this.x = x;
    }

    /**
     * Answers of "fault", "status", "trace", "walls" (how many), "wall 0" .., "strong" (in all), "readers" (how many, of
     * which kind), "palm 0" .., "days", "acts" (the street behind each undo), "image 0", "image 1" (the street restored),
     * "tape" (the street read), "rows" (how many), "row 0" .. .
     */
    static Map<String, String> of(PalmTastes x) {
        Whole whole = new Whole(x);
        whole.say("fault", "fault()", x.fault());
        whole.say("status", "status()", x.status());
        for (int i = 0; i <= 16; i++) whole.say("trace", "trace(" + i + ")", x.trace(i));
        whole.say("rows", "count(0)", x.count(0));
        whole.say("tape", "count(6)", x.count(6));
        whole.street("");
        whole.acts();
        for (int k = 0; k < 2; k++) whole.image(k);
        whole.tape();
        whole.rows();
        Map<String, String> all = new LinkedHashMap<>();
        whole.answers.forEach((of, told) -> all.put(of, told.toString()));
        return all;
    }

    private void say(String of, String call, int answer) {
        answers.computeIfAbsent(of, none -> new StringBuilder()).append(call).append(" = ").append(answer).append("; ");
    }

    /** The street as it is now: each answer of its own, or all of one. */
    private void street(String one) {
        boolean each = one.isEmpty();
        say(each ? "walls" : one, "count(1)", x.count(1));
        say(each ? "readers" : one, "count(2)", x.count(2));
        say(each ? "days" : one, "count(3)", x.count(3));
        say(each ? "acts" : one, "count(4)", x.count(4));
        say(each ? "strong" : one, "count(5)", x.count(5));
        int walls = x.count(1);
        int readers = x.count(2);
        for (int w = 0; w < walls; w++) {
            for (int f = 0; f < 5; f++) say(each ? "wall " + w : one, "wall(" + w + ", " + f + ")", x.wall(w, f));
        }
        for (int r = 0; r < readers; r++) {
            say(each ? "readers" : one, "kind(" + r + ")", x.kind(r));
            for (int what = 0; what <= 5; what++) {
                say(each ? "palm " + r : one, "reader(" + r + ", " + what + ")", x.reader(r, what));
            }
        }
    }

    private void acts() {
        for (int i = 0; i < 25; i++) {
            int left = x.undo();
            say("acts", "undo()", left);
            if (left == Due.STATE) return;
            street("acts");
        }
    }

    /** Where none was kept the street is yet another one, which is not the image's to tell. */
    private void image(int k) {
        String image = "image " + k;
        int answer = x.restore(k);
        say(image, "restore(" + k + ")", answer);
        if (answer == 1) street(image);
    }

    private void tape() {
        int answer = x.street();
        say("tape", "street()", answer);
        if (answer > 0) street("tape");
        else say("tape", "fault()", x.fault());
    }

    private void rows() {
        readingStreet();
        for (int row = 0; row < 8; row++) {
            String of = "row " + row;
            List<Integer> items = items(row);
            for (int i = 0; i < items.size(); i++) say(of, "item " + i, items.get(i));
            if (!items.isEmpty()) say(of, "set(" + row + ", 0, 40000)", x.set(row, 0, 40000));
            say(of, "drop(" + row + ")", x.drop(row));
        }
    }

    /** A row's items, of which the first is another then, on a street that is another; BAD: one that is not -1 to 4. */
    static List<Integer> items(PalmTastes x, int row) {
        Whole whole = new Whole(x);
        whole.readingStreet();
        return whole.items(row);
    }

    private void readingStreet() {
        x.street();
        Due.street(x, "wall1 0 0 0 0;wall0 1 0 0 0;wall0 0 1 0 0;wall0 0 0 1 0;wall0 0 0 0 1;wall0 0 0 0 0;reader scholar0 0 0 0 0;");
    }

    /** Items cannot be asked for: each is copied to the first place, where wrong() tells what is read alike. */
    private List<Integer> items(int row) {
        List<Integer> items = new ArrayList<>();
        while (items.size() < 40 && x.copy(row, items.size(), row, 0, 1) == 1) items.add(firstItem(row));
        return items;
    }

    private int firstItem(int row) {
        for (int wall = 0; wall <= 5; wall++) {
            int wrong = x.wrong(0, wall, wall, row);
            if (wrong == Due.NONE) return wall < 5 ? wall : -1;
            if (wrong != 0) return wrong;
        }
        return -2;
    }
}
