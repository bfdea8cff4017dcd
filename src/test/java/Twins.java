import java.util.function.Predicate;
import java.util.function.Supplier;

/** Two objects with the same calls behind them: what a refused call leaves unchanged, later calls show on both. */
final class Twins {
    private static final String[] NAMES = {"v", "g", "a", "b", "c", "e", "f", "z", "ab", "abc"};
    private static final String RING = "i v\ni g\np a v b\nn a g b\np b v c\nn b g c\np c v a\nn c g a";

    private final Check check;
    private final Supplier<SwitchLevels> history;

    Twins(Check check, Supplier<SwitchLevels> history) {
        this.check = check;
        this.history = history;
    }

    /** The call must answer false and change nothing. */
    void refuse(String what, Predicate<SwitchLevels> call) {
        SwitchLevels tried = history.get();
        SwitchLevels left = history.get();
        check.due(what, call.test(tried), false);
        check.due(what + ", what there is after it", picture(tried), picture(left));
        check.due(what + ", what comes after it", sequel(tried), sequel(left));
    }

    /**
     * A network at work: a ring that runs, of which c is stuck, a transistor jammed, changes noted, a limit that
     * is not the first one, and a text that is another than the one that was loaded.
     */
    static SwitchLevels busy() {
        SwitchLevels x = Check.loaded("i v;i g;p a v b;n a g b;p b v c;n b g c;p c v a;n c g a;d v a e 1;s e 1;= f e");
        Check.setAll(x, "101010");
        x.limit(3);
        x.step();
        x.stick(4, 1);
        x.step();
        x.jam(5, 2);
        x.set(3, 0);
        x.wipe();
        Check.writeAll(x, "n z g b\ni ab");
        return x;
    }

    /** All that can be asked for without a change. */
    static String picture(SwitchLevels x) {
        int nodes = x.nodes();
        StringBuilder all = new StringBuilder("nodes " + nodes + " steps " + x.steps());
        for (int n = 0; n < nodes; n++) {
            all.append(", ").append(x.state(n)).append(" of ").append(x.group(n)).append(" at ");
            all.append(Check.levels(x, n));
        }
        for (String name : NAMES) {
            all.append(' ').append(name).append('=').append(x.node(Check.pack(name)));
        }
        for (int t = 0; t < 10; t++) {
            all.append(t == 0 ? ", conducts " : " ").append(x.conducts(t));
        }
        return all.append(", changes ").append(Check.changes(x)).toString();
    }

    /** What is hidden: who is stuck, who is an input, what is jammed, the limit, the text and its room. */
    private static String sequel(SwitchLevels x) {
        StringBuilder all = new StringBuilder();
        all.append(x.step()).append(' ').append(Check.states(x)).append(' ').append(x.settle());
        all.append(' ').append(Check.states(x)).append(' ').append(Check.changes(x)).append(" free");
        int nodes = x.nodes();
        for (int n = 0; n < nodes; n++) {
            all.append(' ').append(x.free(n)).append(x.set(n, n % 2));
        }
        all.append(' ').append(x.settle()).append(' ').append(Check.states(x)).append(" stick");
        for (int n = 0; n < nodes; n++) {
            all.append(' ').append(x.stick(n, 1));
        }
        all.append(" room ").append(Check.room(x)).append(" load ").append(x.load()).append(' ').append(picture(x));
        Check.loadText(x, RING);
        Check.setAll(x, "10101");
        return all.append(" ring ").append(x.settle()).toString();
    }
}
