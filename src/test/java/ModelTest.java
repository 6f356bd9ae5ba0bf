import java.util.List;
import java.util.Random;

/** Random runs of 512 calls, each answer of PalmTastes against that of the model; the seeds are fixed. */
public final class ModelTest {
    private static final int RUNS = 3000, CALLS = 512;
    private static final int[] ODD = {-1, -2, 5, 6, 8, 9, 31, 41, 100, Integer.MIN_VALUE, Integer.MAX_VALUE, 1 << 20, -1000};
    private static final Due due = new Due();

    private final Random random;
    private final PalmTastes x = new PalmTastes();
    private final Model m = new Model();
    private final int run;
    /** How many walls, readers, rows a run mostly tells: few, so that calls meet, or all that there can be. */
    private final int walls;
    private final int readers;
    private final int rows;
    private int calls = 0;

    private ModelTest(int run) {
        this.run = run;
        this.random = new Random(run);
        boolean wide = run % 3 == 2;
        walls = wide ? 8 : 4;
        readers = wide ? 5 : 3;
        rows = wide ? 8 : 3;
    }

    public static void main(String[] args) {
        for (int run = 0; run < RUNS; run++) new ModelTest(run).go();
        due.end("ModelTest");
    }

    private void same(String call, int got, int want) {
        calls++;
        due.is("run " + run + ", call " + calls + ": " + call, got, want);
    }

    /** Mostly one of the first n numbers; now and then an odd one. */
    private int pick(int n) {
        return random.nextInt(24) == 0 ? ODD[random.nextInt(ODD.length)] : random.nextInt(n);
    }

    private int wall() {
        int there = m.count(1);
        return random.nextInt(8) == 0 || there == 0 ? pick(8) : random.nextInt(there);
    }

    private int reader() {
        int there = m.count(2);
        return random.nextInt(8) == 0 || there == 0 ? pick(5) : random.nextInt(there);
    }

    private void go() {
        if (random.nextInt(4) != 0) street();
        while (calls < CALLS - 170) {
            int what = random.nextInt(40);
            if (what == 0) street();
            else if (random.nextInt(30) == 0) blanks();
            else if (what < 12) rows(what);
            else if (what < 22) acts(what);
            else if (what < 34) foretold(what);
            else asked(what);
        }
        all();
    }

    private void street() {
        String text = text();
        for (int from = 0; from < text.length() && calls < CALLS - 150; ) {
            int to = Math.min(text.length(), from + (random.nextInt(4) == 0 ? 1 + random.nextInt(8) : 8));
            long w = random.nextLong();
            for (int i = from; i < to; i++) w = w << 8 | text.charAt(i);
            same("feed", x.feed(w, to - from), m.feed(w, to - from));
            from = to;
        }
        same("street of " + text, x.street(), m.street());
        same("fault", x.fault(), m.fault());
    }

    /** Left on the tape, ahead of the next street. */
    private void blanks() {
        int n = 1 + random.nextInt(8);
        long w = random.nextInt(3) == 0 ? 0x0a20200a20200a0aL : 0x2020202020202020L;
        same("feed", x.feed(w, n), m.feed(w, n));
        same("count", x.count(6), m.count(6));
    }

    private String text() {
        StringBuilder text = new StringBuilder();
        int most = random.nextInt(3) == 0 ? 31 : 12;
        int told = 1 + random.nextInt(random.nextInt(8) == 0 ? 10 : walls + 1);
        for (int w = 0; w < told; w++) text.append("wall").append(five(most)).append(';');
        List<String> sorts = List.of("plain", "child", "wax", "fever", "scholar");
        int hands = random.nextInt(random.nextInt(8) == 0 ? 7 : readers + 1) + random.nextInt(2);
        int used = random.nextInt(2) == 0 ? 4 : 10;
        for (int r = 0; r < hands; r++) {
            text.append("reader ").append(sorts.get(random.nextInt(5))).append(five(used)).append(';');
        }
        if (random.nextInt(6) == 0) spoil(text);
        return text.toString();
    }

    private String five(int bound) {
        StringBuilder five = new StringBuilder();
        for (int i = 0; i < 5; i++) {
            if (i > 0 || random.nextBoolean()) five.append(random.nextInt(9) == 0 ? '\n' : ' ');
            if (random.nextInt(12) == 0) five.append(random.nextInt(3) == 0 ? "00" : "0");
            five.append(random.nextInt(3) == 0 ? 0 : random.nextInt(bound));
        }
        return five.toString();
    }

    private void spoil(StringBuilder text) {
        int at = random.nextInt(text.length());
        String odd = "wal;0159 \n:{az`/AZ" + (char) 0 + (char) 255 + (char) 128;
        char put = odd.charAt(random.nextInt(odd.length()));
        switch (random.nextInt(4)) {
            case 0: text.deleteCharAt(at); break;
            case 1: text.insert(at, put); break;
            case 2: text.setCharAt(at, put); break;
            default: text.setLength(at); break;
        }
    }

    private void rows(int what) {
        int a = pick(rows);
        int i = pick(9);
        if (what < 4) {
            int lane = random.nextInt(4) == 0 ? pick(3) : 0;
            int n = random.nextInt(3) == 0 ? pick(41) : 2 + random.nextInt(9);
            same("row", x.row(a, lane, n), m.row(a, lane, n));
        } else if (what == 4) {
            int b = pick(rows);
            int j = pick(9);
            int n = pick(6);
            same("copy", x.copy(a, i, b, j, n), m.copy(a, i, b, j, n));
        } else if (what == 5 && random.nextInt(4) == 0) {
            same("drop", x.drop(a), m.drop(a));
        } else if (what == 6) {
            int v = random.nextInt();
            same("set", x.set(a, i, v), m.set(a, i, v));
        } else {
            int fill = random.nextInt(3);
            for (int k = 0; k < 8; k++) {
                int v = fill == 0 ? random.nextInt(5) : fill == 1 ? random.nextInt(14) : m.read(random.nextInt(readers), 0, k, k);
                same("set", x.set(a, k, v), m.set(a, k, v));
            }
        }
        if (random.nextInt(4) == 0) same("status", x.status(), m.status());
    }

    private void acts(int what) {
        int reader = reader();
        int from = wall();
        int to = wall();
        switch (what) {
            case 12: case 13: {
                int f = pick(5);
                int n = pick(16);
                same("paint", x.paint(from, f, n), m.paint(from, f, n));
                break;
            }
            case 14: {
                int rain = random.nextInt(3) == 0 ? pick(6) : 0;
                same("day", x.day(rain), m.day(rain));
                break;
            }
            case 15: case 16: case 17: same("walk", x.walk(reader, from, to), m.walk(reader, from, to)); break;
            case 18: if (random.nextInt(3) == 0) same("rest", x.rest(reader), m.rest(reader)); break;
            case 19: {
                int times = 1 + (random.nextInt(9) == 0 ? random.nextInt(30) : random.nextInt(3));
                for (int i = 0; i < times; i++) same("undo", x.undo(), m.undo());
                break;
            }
            case 20: {
                int k = pick(2);
                if (random.nextInt(4) == 0) same("image", x.image(k), m.image(k));
                else if (random.nextInt(4) == 0) same("restore", x.restore(k), m.restore(k));
                break;
            }
            default: {
                int f = pick(5);
                same("felt", x.felt(reader, from, f), m.felt(reader, from, f));
                break;
            }
        }
    }

    private void foretold(int what) {
        int reader = reader();
        int from = wall();
        int to = wall();
        int row = pick(rows);
        switch (what) {
            case 22: case 23: {
                int k = pick(walls);
                same("read", x.read(reader, from, to, k), m.read(reader, from, to, k));
                break;
            }
            case 24: case 25: same("wrong", x.wrong(reader, from, to, row), m.wrong(reader, from, to, row)); break;
            case 26: same("often", x.often(reader, from, to), m.often(reader, from, to)); break;
            case 27: case 28: {
                int k = pick(walls + 1) - 1;
                same("spice", x.spice(reader, from, to, row, k), m.spice(reader, from, to, row, k));
                break;
            }
            case 29: case 30: same("both", x.both(reader, from, to, row), m.both(reader, from, to, row)); break;
            case 31: {
                int strong = pick(14);
                int k = pick(5);
                if (random.nextInt(3) == 0) same("order", x.order(reader, strong, k), m.order(reader, strong, k));
                break;
            }
            case 32: {
                int f = pick(5);
                int days = pick(21);
                int least = pick(2);
                same("written", x.written(from, f, days, least), m.written(from, f, days, least));
                break;
            }
            default: {
                int i = pick(3);
                same("forged", x.forged(row, i), m.forged(row, i));
                break;
            }
        }
        if (random.nextInt(6) == 0) same("status", x.status(), m.status());
    }

    private void asked(int what) {
        int reader = reader();
        int n = pick(7);
        switch (what) {
            case 34: same("kind", x.kind(reader), m.kind(reader)); break;
            case 35: {
                int kind = pick(6);
                same("as", x.as(reader, kind), m.as(reader, kind));
                same("status", x.status(), m.status());
                break;
            }
            case 36: {
                int ask = pick(2);
                same("ask", x.ask(reader, ask), m.ask(reader, ask));
                for (int i = -1; i < 7; i++) same("trace", x.trace(i), m.trace(i));
                break;
            }
            case 37: same("reader", x.reader(reader, n), m.reader(reader, n)); break;
            case 38: {
                int wall = wall();
                same("wall", x.wall(wall, n), m.wall(wall, n));
                break;
            }
            default: same("count", x.count(n), m.count(n)); break;
        }
    }

    /** All that can be asked without a change, at the end of a run. */
    private void all() {
        for (int w = 0; w <= 8; w++) {
            for (int f = 0; f < 5; f++) same("wall", x.wall(w, f), m.wall(w, f));
        }
        for (int r = 0; r <= 5; r++) {
            for (int f = 0; f <= 5; f++) same("reader", x.reader(r, f), m.reader(r, f));
        }
        for (int r = 0; r <= 5; r++) same("kind", x.kind(r), m.kind(r));
        for (int i = 0; i <= 7; i++) same("trace", x.trace(i), m.trace(i));
        for (int what = 0; what <= 7; what++) same("count", x.count(what), m.count(what));
        same("status", x.status(), m.status());
        for (int i = 0; i < 26; i++) same("undo", x.undo(), m.undo());
    }
}
