import java.util.List;
import java.util.function.Consumer;
import java.util.function.ToIntFunction;

/** Two new objects with the same calls behind them, one of which is asked once more: what differs between them then? */
final class Twins {
    private final Due due;
    private final String setting;
    private final Consumer<PalmTastes> calls;

    Twins(Due due, String setting, Consumer<PalmTastes> calls) {
        this.due = due;
        this.setting = setting;
        this.calls = calls;
    }

    private PalmTastes one() {
        PalmTastes x = new PalmTastes();
        calls.accept(x);
        return x;
    }

    /** A call is answered as is due, again when it is asked again, and leaves all as it was, status() too. */
    void leavesAll(String call, ToIntFunction<PalmTastes> asked, int want) {
        differsIn(call, asked, want, -1);
    }

    /** A call with a row, or as(): it leaves all but status(), which is the number of its finding. */
    void leavesAllButStatus(String call, ToIntFunction<PalmTastes> asked, int want) {
        differsIn(call, asked, want, Whole.STATUS);
        PalmTastes x = one();
        // SIZE, so that another finding than that of the setting is seen to go.
        x.row(0, 0, -1);
        asked.applyAsInt(x);
        boolean finding = want <= -1000011 && want >= -1000015;
        due.is(setting + call + ", then status()", x.status(), finding ? -1000010 - want : 0);
    }

    /** A text that is refused: it leaves all but fault(). */
    void leavesAllButFault(String call, ToIntFunction<PalmTastes> asked, int want) {
        differsIn(call, asked, want, Whole.FAULT);
    }

    private void differsIn(String call, ToIntFunction<PalmTastes> asked, int want, int but) {
        PalmTastes x = one();
        due.is(setting + call, asked.applyAsInt(x), want);
        due.is(setting + call + ", again", asked.applyAsInt(x), want);
        List<String> got = Whole.of(x);
        List<String> left = Whole.of(one());
        due.is(setting + call + ", then how many answers", got.size(), left.size());
        for (int i = 0; i < Math.min(got.size(), left.size()); i++) {
            if (i != but) due.same(setting + call + ", then", got.get(i), left.get(i));
        }
    }
}
