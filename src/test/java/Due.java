/** What the tests share: answers that are due, and texts fed to an object. */
final class Due {
    static final int NONE = -1000000, BAD = -1000001, STATE = -1000002, FULL = -1000003;
    static final int NULL = -1000011, PLACE = -1000012, KIND = -1000013, SIZE = -1000014, STORE = -1000015;

    private int passed = 0;
    private int failed = 0;

    void is(String call, long got, long want) {
        if (got == want) {
            passed++;
        } else {
            failed++;
            if (failed <= 50) System.out.println(call + " answered " + got + ", due is " + want);
        }
    }

    void same(String call, String got, String want) {
        if (got.equals(want)) {
            passed++;
        } else {
            failed++;
            if (failed <= 50) System.out.println(call + " " + got + ", due is " + want);
        }
    }

    /** Ends the test's program: with exit code 1 if an answer was not the one that is due. */
    void end(String test) {
        System.out.println(test + ": " + passed + " answers as due, " + failed + " not");
        if (failed != 0 || passed == 0) System.exit(1);
    }

    /** Feeds a text's characters (0 to 255), eight at a time: what the last feed answered. */
    static int feed(PalmTastes x, String text) {
        int answer = 0;
        for (int from = 0; from < text.length(); from += 8) {
            int to = Math.min(text.length(), from + 8);
            long w = 0;
            for (int i = from; i < to; i++) w = w << 8 | text.charAt(i);
            answer = x.feed(w, to - from);
        }
        return answer;
    }

    static int street(PalmTastes x, String text) {
        feed(x, text);
        return x.street();
    }

    /** A new object with a street. */
    static PalmTastes on(String text) {
        PalmTastes x = new PalmTastes();
        street(x, text);
        return x;
    }

    /** A row of bytes with these items. */
    static void row(PalmTastes x, int row, int... items) {
        x.row(row, 0, items.length);
        for (int i = 0; i < items.length; i++) x.set(row, i, items[i]);
    }
}
