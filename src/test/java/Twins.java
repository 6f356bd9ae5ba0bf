import java.util.List;
import java.util.Map;
import java.util.Set;
import java.util.TreeSet;
import java.util.function.Consumer;
import java.util.function.ToIntFunction;

/** Two new objects with the same calls behind them, one of which is asked once more: what differs between them then? */
final class Twins {
    private final Due due;
    private final String setting;
    private final Consumer<PalmTastes> calls;

    Twins(Due due, String setting, Consumer<PalmTastes> calls) {
        this.due = due;
        this.setting = setting;
        this.calls = calls;
    }

    private PalmTastes one() {
        PalmTastes x = new PalmTastes();
        calls.accept(x);
        return x;
    }

    /** A call is answered as is due, again when it is asked again, and leaves all as it was, status() too. */
    void leavesAll(String call, ToIntFunction<PalmTastes> asked, int want) {
        leavesAllBut(call, asked, want, "");
    }

    /** A call with a row, or as(): it leaves all but status(), which is the number of its finding. */
    void leavesAllButStatus(String call, ToIntFunction<PalmTastes> asked, int want) {
        leavesAllBut(call, asked, want, "status");
        PalmTastes x = one();
        // SIZE, so that another finding than that of the setting is seen to go.
        x.row(0, 0, -1);
        asked.applyAsInt(x);
        boolean finding = want <= -1000011 && want >= -1000015;
        due.is(setting + call + ", then status()", x.status(), finding ? -1000010 - want : 0);
    }

    /** A text that is refused: it leaves all but fault(). */
    void leavesAllButFault(String call, ToIntFunction<PalmTastes> asked, int want) {
        leavesAllBut(call, asked, want, "fault");
    }

    private void leavesAllBut(String call, ToIntFunction<PalmTastes> asked, int want, String but) {
        PalmTastes x = one();
        due.is(setting + call, asked.applyAsInt(x), want);
        due.is(setting + call + ", again", asked.applyAsInt(x), want);
        Set<String> differ = differ(call, x, Set.of(but));
        differ.remove(but);
        due.is(setting + call + ", then others of", differ.size(), 0);
    }

    /** A call is answered as is due; each that is named is another then, and no other is (names as Whole has them). */
    void changes(String call, ToIntFunction<PalmTastes> asked, int want, String... changed) {
        PalmTastes x = one();
        due.is(setting + call, asked.applyAsInt(x), want);
        Set<String> wanted = new TreeSet<>(List.of(changed));
        due.same(setting + call + " changes", differ(call, x, wanted).toString(), wanted.toString());
    }

    /** What differs between an object and one that was not asked; said at once where it should not. */
    private Set<String> differ(String call, PalmTastes x, Set<String> expected) {
        Map<String, String> got = Whole.of(x);
        Map<String, String> left = Whole.of(one());
        Set<String> all = new TreeSet<>(got.keySet());
        all.addAll(left.keySet());
        Set<String> differ = new TreeSet<>();
        for (String of : all) {
            String is = got.getOrDefault(of, "none");
            String was = left.getOrDefault(of, "none");
            if (!is.equals(was)) differ.add(of);
            if (!expected.contains(of)) due.same(setting + call + ", then " + of + ":", is, was);
        }
        return differ;
    }
}
