import java.nio.charset.StandardCharsets;
import java.util.ArrayDeque;
import java.util.ArrayList;
import java.util.Deque;
import java.util.List;
import java.util.Map;
import java.util.TreeMap;
import java.util.regex.Matcher;
import java.util.regex.Pattern;
import java.util.stream.IntStream;

/** The document once more, by trying out where PalmTastes reckons; slow, and with the whole library. */
final class Model {
    static final int NONE = -1000000, BAD = -1000001, STATE = -1000002, FULL = -1000003;
    private static final List<String> SORTS = List.of("reader", "plain", "child", "scholar", "wax", "fever");
    private static final Pattern TOKEN = Pattern.compile("[a-z]+|[0-9]+|[^ \n]", Pattern.DOTALL);

    private static final List<String> ORDERS = IntStream.rangeClosed(1234, 43210).mapToObj(c -> String.format("%05d", c))
        .filter(d -> d.chars().allMatch(c -> c < '5') && d.chars().distinct().count() == 5).toList();

    /** The kinds as interfaces: a body told for a kind is a method that overrides. */
    private interface Any {
        Hand hand();

        default int size() {
            hand().mark(10);
            int sum = 0;
            for (int u : hand().used) sum += u;
            return sum;
        }

        default int mark() {
            hand().mark(20);
            return hand().number;
        }
    }

    private interface Plain extends Any {
        default int size() {
            hand().mark(11);
            int lent = Any.super.size();
            return lent + mark();
        }

        default int mark() {
            hand().mark(21);
            int lent = Any.super.mark();
            return lent + hand().after;
        }
    }

    private interface Child extends Plain {
        default int size() {
            hand().mark(12);
            return 0 - Plain.super.size();
        }

        default int mark() {
            hand().mark(24);
            return 2 * Plain.super.mark();
        }
    }

    private interface Scholar extends Plain {
        default int mark() {
            hand().mark(22);
            return Plain.super.mark() - 1000;
        }
    }

    private interface Wax extends Any {
        default int size() {
            hand().mark(13);
            return Any.super.size() - 100;
        }

        default int mark() {
            hand().mark(23);
            int lent = Any.super.mark();
            return lent - size();
        }
    }

    private interface Fever extends Wax {
        default int size() {
            hand().mark(14);
            return 2 * Wax.super.size();
        }
    }

    private record PlainOne(Hand hand) implements Plain { }

    private record ChildOne(Hand hand) implements Child { }

    private record ScholarOne(Hand hand) implements Scholar { }

    private record WaxOne(Hand hand) implements Wax { }

    private record FeverOne(Hand hand) implements Fever { }

    private static final class Hand {
        final int number;
        final String sort;
        final int[] used;
        int after = -1;
        List<Integer> trace = new ArrayList<>();

        Hand(int number, String sort, int[] used) {
            this.number = number;
            this.sort = sort;
            this.used = used;
        }

        void mark(int body) {
            trace.add(body);
        }

        Hand copy() {
            Hand h = new Hand(number, sort, used.clone());
            h.after = after;
            return h;
        }

        Any any() {
            return switch (sort) {
                case "plain" -> new PlainOne(this);
                case "child" -> new ChildOne(this);
                case "scholar" -> new ScholarOne(this);
                case "wax" -> new WaxOne(this);
                default -> new FeverOne(this);
            };
        }

        int feel(int strong, int flavour) {
            int felt = strong - used[flavour];
            if (after == flavour) felt -= 2;
            if (felt < 0) felt = 0;
            if (sort.equals("child")) felt *= 2;
            if (sort.equals("wax")) felt = felt < 4 ? 0 : felt - 4;
            return felt;
        }

        /** Tastes, and is used to it then. */
        int taste(int[] wall) {
            int best = -1;
            for (int f = 4; f >= 0; f--) {
                int felt = feel(wall[f], f);
                if (felt > 0 && (best < 0 || felt >= feel(wall[best], best))) best = f;
            }
            if (!sort.equals("scholar")) {
                for (int f = 0; f < 5; f++) {
                    used[f] += f == best ? 1 : -1;
                    if (used[f] > 9) used[f] = 9;
                    if (used[f] < 0) used[f] = 0;
                }
            }
            after = best;
            return best;
        }

        int read(int[] wall) {
            int tasted = taste(wall);
            if (sort.equals("fever") && (tasted == 0 || tasted == 1)) return 1 - tasted;
            return tasted;
        }
    }

    private static final class Place {
        List<int[]> walls = new ArrayList<>();
        List<Hand> hands = new ArrayList<>();
        int days = 0;

        Place copy() {
            Place p = new Place();
            for (int[] w : walls) p.walls.add(w.clone());
            for (Hand h : hands) p.hands.add(h.copy());
            p.days = days;
            return p;
        }
    }

    private record Token(String text, int at) {
        boolean isNumber() {
            return Character.isDigit(text.charAt(0)) && text.length() <= 3;
        }
    }

    private final Map<Integer, long[]> rows = new TreeMap<>();
    private final int[] lanes = new int[8];
    private final StringBuilder tape = new StringBuilder();
    private Place now = null;
    private final Deque<Place> past = new ArrayDeque<>();
    private final Place[] images = new Place[2];
    private List<Integer> trace = new ArrayList<>();
    private int fault = 0;
    private int status = 0;
    private int faultNumber;

    private int found(int n) {
        status = n;
        return -1000010 - n;
    }

    private int fine(int answer) {
        status = 0;
        return answer;
    }

    private static boolean in(int v, int least, int most) {
        return v >= least && v <= most;
    }

    int row(int row, int lane, int n) {
        if (!in(row, 0, 7) || !in(lane, 0, 2) || n > 40) return BAD;
        if (n < 0) return found(4);
        rows.put(row, new long[n]);
        lanes[row] = lane;
        return fine(n);
    }

    int set(int row, int i, int v) {
        if (!in(row, 0, 7)) return BAD;
        if (!rows.containsKey(row)) return found(1);
        long[] items = rows.get(row);
        if (!in(i, 0, items.length - 1)) return found(2);
        int bits = new int[] {8, 16, 32}[lanes[row]];
        long low = v & (1L << bits) - 1;
        items[i] = low >= 1L << bits - 1 ? low - (1L << bits) : low;
        return fine((int) items[i]);
    }

    int copy(int a, int i, int b, int j, int n) {
        if (!in(a, 0, 7) || !in(b, 0, 7)) return BAD;
        if (!rows.containsKey(a) || !rows.containsKey(b)) return found(1);
        if (lanes[a] != lanes[b]) return found(5);
        if (i < 0 || j < 0 || n < 0) return found(2);
        if ((long) i + n > rows.get(a).length || (long) j + n > rows.get(b).length) return found(2);
        long[] ahead = rows.get(a).clone();
        for (int k = 0; k < n; k++) rows.get(b)[j + k] = ahead[i + k];
        return fine(n);
    }

    int drop(int row) {
        if (!in(row, 0, 7)) return BAD;
        if (!rows.containsKey(row)) return found(1);
        return fine(rows.remove(row).length);
    }

    int feed(long w, int n) {
        if (!in(n, 1, 8)) return BAD;
        if (tape.length() + n > 400) return FULL;
        byte[] all = new byte[8];
        for (int i = 0; i < 8; i++) all[7 - i] = (byte) (w >> 8 * i);
        tape.append(new String(all, 8 - n, n, StandardCharsets.ISO_8859_1));
        return tape.length();
    }

    int street() {
        String text = tape.toString();
        tape.setLength(0);
        List<Token> tokens = new ArrayList<>();
        Matcher m = TOKEN.matcher(text);
        while (m.find()) tokens.add(new Token(m.group(), m.start()));
        Place told = new Place();
        faultNumber = 1;
        int first = parse(tokens, told);
        if (first < 0) {
            now = told;
            past.clear();
            return now.walls.size();
        }
        fault = faultNumber;
        return -1000100 - (first < tokens.size() ? tokens.get(first).at : text.length());
    }

    /** The number of the first token that has a fault; -1: none has. */
    private int parse(List<Token> tokens, Place told) {
        int at = 0;
        while (at < tokens.size() || told.walls.isEmpty()) {
            String word = at < tokens.size() ? tokens.get(at).text : "";
            boolean wall = word.equals("wall") && told.hands.isEmpty();
            boolean hand = word.equals("reader") && !told.walls.isEmpty();
            if (!wall && !hand) return at;
            if (wall && told.walls.size() == 8 || hand && told.hands.size() == 5) {
                faultNumber = 3;
                return at;
            }
            at++;
            String sort = "";
            if (hand) {
                sort = at < tokens.size() ? tokens.get(at).text : "";
                if (SORTS.indexOf(sort) < 1) return at;
                at++;
            }
            int[] five = new int[5];
            for (int f = 0; f < 5; f++, at++) {
                if (at >= tokens.size() || !tokens.get(at).isNumber()) return at;
                five[f] = Integer.parseInt(tokens.get(at).text);
                if (five[f] > (wall ? 30 : 9)) {
                    faultNumber = 2;
                    return at;
                }
            }
            if (at >= tokens.size() || !tokens.get(at).text.equals(";")) return at;
            at++;
            if (wall) told.walls.add(five);
            else told.hands.add(new Hand(told.hands.size(), sort, five));
        }
        return -1;
    }

    int fault() {
        return fault;
    }

    private boolean noWall(int wall) {
        return now == null || !in(wall, 0, now.walls.size() - 1);
    }

    private boolean noHand(int reader) {
        return now == null || !in(reader, 0, now.hands.size() - 1);
    }

    private boolean noWalk(int reader, int from, int to) {
        return noHand(reader) || noWall(from) || noWall(to);
    }

    private void act() {
        past.addLast(now.copy());
        if (past.size() > 24) past.removeFirst();
    }

    int paint(int wall, int flavour, int n) {
        if (noWall(wall) || !in(flavour, 0, 4) || !in(n, 1, 30)) return BAD;
        act();
        int[] w = now.walls.get(wall);
        for (int i = 0; i < n; i++) if (w[flavour] < 30) w[flavour]++;
        return w[flavour];
    }

    private static int faded(int strong, int flavour, int rain) {
        return Math.max(0, strong - (flavour == 2 ? 3 : 1) - rain);
    }

    int day(int rain) {
        if (now == null) return STATE;
        if (!in(rain, 0, 5)) return BAD;
        if (now.days == 9999) return FULL;
        act();
        now.days++;
        int gone = 0;
        for (int[] w : now.walls) {
            for (int f = 0; f < 5; f++) {
                int next = faded(w[f], f, rain);
                if (next == 0 && w[f] != 0) gone++;
                w[f] = next;
            }
        }
        return gone;
    }

    private List<int[]> way(int from, int to) {
        List<int[]> way = new ArrayList<>();
        int step = from <= to ? 1 : -1;
        for (int w = from; w != to + step; w += step) way.add(now.walls.get(w));
        return way;
    }

    int walk(int reader, int from, int to) {
        if (noWalk(reader, from, to)) return BAD;
        act();
        int some = 0;
        for (int[] w : way(from, to)) if (now.hands.get(reader).taste(w) >= 0) some++;
        return some;
    }

    int rest(int reader) {
        if (noHand(reader)) return BAD;
        act();
        Hand h = now.hands.get(reader);
        int sum = 0;
        for (int f = 0; f < 5; f++) {
            sum += h.used[f];
            h.used[f] = 0;
        }
        h.after = -1;
        return sum;
    }

    int undo() {
        if (past.isEmpty()) return STATE;
        now = past.removeLast();
        return past.size();
    }

    int wall(int wall, int flavour) {
        return noWall(wall) || !in(flavour, 0, 4) ? BAD : now.walls.get(wall)[flavour];
    }

    int reader(int reader, int what) {
        if (noHand(reader) || !in(what, 0, 5)) return BAD;
        Hand h = now.hands.get(reader);
        return what == 5 ? h.after : h.used[what];
    }

    int felt(int reader, int wall, int flavour) {
        if (noHand(reader) || noWall(wall) || !in(flavour, 0, 4)) return BAD;
        return now.hands.get(reader).feel(now.walls.get(wall)[flavour], flavour);
    }

    private List<Integer> readings(Hand hand, List<int[]> way) {
        List<Integer> all = new ArrayList<>();
        for (int[] w : way) all.add(hand.read(w));
        return all;
    }

    int read(int reader, int from, int to, int k) {
        if (noWalk(reader, from, to) || k < 0) return BAD;
        List<Integer> all = readings(now.hands.get(reader).copy(), way(from, to));
        return k < all.size() ? all.get(k) : NONE;
    }

    /** 0, or the refusal of a row that tells a number of items between two bounds, from a place on. */
    private int refusal(int row, int i, int n, int least, int most) {
        if (!rows.containsKey(row)) return found(1);
        long[] items = rows.get(row);
        if (i < 0 || (long) i + n > items.length) return found(2);
        for (int k = i; k < i + n; k++) if (items[k] < least || items[k] > most) return BAD;
        return fine(0);
    }

    int wrong(int reader, int from, int to, int row) {
        if (noWalk(reader, from, to) || !in(row, 0, 7)) return BAD;
        List<Integer> all = readings(now.hands.get(reader).copy(), way(from, to));
        int refusal = refusal(row, 0, all.size(), -1, 4);
        if (refusal != 0) return refusal;
        for (int k = 0; k < all.size(); k++) if (all.get(k) != rows.get(row)[k]) return k;
        return NONE;
    }

    int often(int reader, int from, int to) {
        if (noWalk(reader, from, to)) return BAD;
        Hand h = now.hands.get(reader).copy();
        List<Integer> first = readings(h, way(from, to));
        for (int m = 2; m <= 20; m++) if (!readings(h, way(from, to)).equals(first)) return m;
        return NONE;
    }

    /** The spices along a way, by trying each; null: there is none. */
    private List<Integer> spices(Hand hand, List<int[]> way, List<Long> told) {
        List<Integer> all = new ArrayList<>();
        Hand h = hand;
        for (int k = 0; k < way.size(); k++) {
            int read = (int) (long) told.get(k);
            int flavour = h.sort.equals("fever") && read < 2 ? 1 - read : read;
            int least = -1;
            for (int p = 0; least < 0 && way.get(k)[flavour] + p <= 30; p++) {
                int[] w = way.get(k).clone();
                w[flavour] += p;
                Hand then = h.copy();
                if (then.read(w) == read) {
                    least = p;
                    h = then;
                }
            }
            if (least < 0) return null;
            all.add(least);
        }
        return all;
    }

    private List<Long> told(int row, int n) {
        List<Long> told = new ArrayList<>();
        for (int k = 0; k < n; k++) told.add(rows.get(row)[k]);
        return told;
    }

    int spice(int reader, int from, int to, int row, int k) {
        if (noWalk(reader, from, to) || !in(row, 0, 7) || k < -1) return BAD;
        List<int[]> way = way(from, to);
        int refusal = refusal(row, 0, way.size(), 0, 4);
        if (refusal != 0) return refusal;
        List<Integer> all = spices(now.hands.get(reader), way, told(row, way.size()));
        if (all == null || k >= all.size()) return NONE;
        return k >= 0 ? all.get(k) : all.stream().mapToInt(s -> s).sum();
    }

    int both(int reader, int from, int to, int row) {
        if (noWalk(reader, from, to) || !in(row, 0, 7)) return BAD;
        List<int[]> way = way(from, to);
        int refusal = refusal(row, 0, way.size(), 0, 4);
        if (refusal != 0) return refusal;
        List<Long> told = told(row, way.size());
        List<Integer> there = spices(now.hands.get(reader), way, told);
        List<Long> turned = new ArrayList<>();
        for (Long item : told) turned.add(0, item);
        List<Integer> back = spices(now.hands.get(reader), way(to, from), turned);
        if (there == null || back == null) return NONE;
        int sum = 0;
        for (int k = 0; k < way.size(); k++) sum += Math.max(there.get(k), back.get(way.size() - 1 - k));
        return sum;
    }

    int order(int reader, int strong, int k) {
        if (noHand(reader) || !in(strong, 1, 30) || !in(k, 0, 4)) return BAD;
        for (String digits : ORDERS) {
            Hand h = now.hands.get(reader).copy();
            boolean all = true;
            for (int p = 0; p < 5; p++) {
                int[] alone = new int[5];
                alone[digits.charAt(p) - '0'] = strong;
                if (h.taste(alone) < 0) all = false;
            }
            if (all) return digits.charAt(k) - '0';
        }
        return NONE;
    }

    int written(int wall, int flavour, int days, int what) {
        if (noWall(wall) || !in(flavour, 0, 4) || !in(days, 0, 20) || !in(what, 0, 1)) return BAD;
        List<Integer> fit = new ArrayList<>();
        for (int then = 0; then <= 30; then++) {
            int strong = then;
            for (int d = 0; d < days; d++) strong = faded(strong, flavour, 0);
            if (strong == now.walls.get(wall)[flavour]) fit.add(then);
        }
        if (fit.isEmpty()) return NONE;
        return fit.get(what == 0 ? 0 : fit.size() - 1);
    }

    int forged(int row, int i) {
        if (now == null) return STATE;
        if (!in(row, 0, 7)) return BAD;
        int refusal = refusal(row, i, now.walls.size(), 0, 99);
        if (refusal != 0) return refusal;
        int bits = 0;
        for (int w = 0; w < now.walls.size(); w++) {
            int yet = 30;
            for (int d = 0; d < rows.get(row)[i + w]; d++) yet = faded(yet, 2, 0);
            if (now.walls.get(w)[2] > yet) bits += 1 << w;
        }
        return bits;
    }

    int image(int k) {
        if (!in(k, 0, 1)) return BAD;
        if (now == null) return STATE;
        images[k] = now.copy();
        return 1;
    }

    int restore(int k) {
        if (!in(k, 0, 1)) return BAD;
        if (images[k] == null) return STATE;
        now = images[k].copy();
        past.clear();
        return 1;
    }

    int kind(int reader) {
        return noHand(reader) ? BAD : SORTS.indexOf(now.hands.get(reader).sort);
    }

    int as(int reader, int kind) {
        if (noHand(reader) || !in(kind, 0, 5)) return BAD;
        Any one = now.hands.get(reader).any();
        boolean is = List.of(Any.class, Plain.class, Child.class, Scholar.class, Wax.class, Fever.class).get(kind).isInstance(one);
        return is ? fine(reader) : found(3);
    }

    int ask(int reader, int what) {
        if (noHand(reader) || !in(what, 0, 1)) return BAD;
        Hand h = now.hands.get(reader).copy();
        int answer = what == 0 ? h.any().size() : h.any().mark();
        trace = h.trace;
        return answer;
    }

    int trace(int i) {
        return in(i, 0, Math.min(15, trace.size() - 1)) ? trace.get(i) : NONE;
    }

    int count(int what) {
        switch (what) {
            case 0: return rows.size();
            case 1: return now == null ? 0 : now.walls.size();
            case 2: return now == null ? 0 : now.hands.size();
            case 3: return now == null ? 0 : now.days;
            case 4: return past.size();
            case 5: return now == null ? 0 : now.walls.stream().flatMapToInt(java.util.Arrays::stream).sum();
            case 6: return tape.length();
            default: return BAD;
        }
    }

    int status() {
        return status;
    }
}
