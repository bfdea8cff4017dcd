/** Promises 12 to 15 and 19: step, settle, steps, state and change. */
public final class StepsTest {
    private static final String CHAIN = "i v;i g;i a;p a v b;n a g b;p b v c;n b g c;p c v d;n c g d";
    private static final String RING = "i v;i g;p a v b;n a g b;p b v c;n b g c;p c v a;n c g a";

    public static void main(String[] args) {
        Check check = new Check();
        stepping(check);
        allAtOnce(check);
        settlingChain(check);
        settlingAtTheLimit(check);
        settlingRing(check);
        dampedUnknownStays(check);
        longDoubt(check);
        statesOfNone(check);
        manyChanges(check);
        wrongChanges(check);
        check.end();
    }

    private static SwitchLevels chain(String states) {
        SwitchLevels x = Check.loaded(CHAIN);
        Check.setAll(x, states);
        return x;
    }

    private static void stepping(Check check) {
        SwitchLevels x = chain("100");
        check.due("b", x.step(), 1);
        check.due("b is known", Check.states(x), "100122");
        check.due("c", x.step(), 1);
        check.due("c is known", Check.states(x), "100102");
        check.due("d", x.step(), 1);
        check.due("d is known", Check.states(x), "100101");
        check.due("steps", x.steps(), 3);
        check.due("no change", x.step(), 0);
        check.due("it counts all the same", x.steps(), 4);
        check.due("changes", Check.changes(x), "3:5=1 2:4=0 1:3=1");
        x.set(2, 1);
        check.due("setting counts no step", x.steps(), 4);
        check.due("b again", x.step(), 1);
        check.due("the step's number", x.change(0), 128 * 5 + 4 * 3);
    }

    /** Two inverters whose wishes cross: each step they both go over, from what both were before it. */
    private static void allAtOnce(Check check) {
        SwitchLevels x = Check.loaded("i v;i g;p a v b;n a g b;p b v a;n b g a");
        Check.setAll(x, "1000");
        check.due("both go over", x.step(), 2);
        check.due("to 1", Check.states(x), "1011");
        check.due("both go over again", x.step(), 2);
        check.due("to 0", Check.states(x), "1000");
        check.due("noted by their numbers", Check.changes(x), "2:3=0 2:2=0 1:3=1 1:2=1");
    }

    private static void settlingChain(Check check) {
        SwitchLevels x = chain("100");
        check.due("three and one without change", x.settle(), 4);
        check.due("all are known", Check.states(x), "100101");
        check.due("steps", x.steps(), 4);
        check.due("settled already", x.settle(), 1);
        check.due("steps then", x.steps(), 5);
        x.set(2, 1);
        check.due("over again", x.settle(), 4);
        check.due("all went over", Check.states(x), "101010");
        x.set(2, 2);
        check.due("into the unknown", x.settle(), 4);
        check.due("all are unknown", Check.states(x), "102222");
        check.due("steps in the end", x.steps(), 13);
    }

    private static void settlingAtTheLimit(Check check) {
        int[] limits = {5, 4, 3};
        for (int limit : limits) {
            SwitchLevels x = chain("101010");
            x.set(2, 0);
            x.limit(limit);
            check.due("limit " + limit + " is enough", x.settle(), 4);
            check.due("all known", Check.states(x), "100101");
        }
        SwitchLevels two = chain("101010");
        two.set(2, 0);
        two.limit(2);
        check.due("limit 2: d goes over in doubt", two.settle(), 4);
        check.due("d is unknown", Check.states(two), "100102");
        check.due("its changes", Check.changes(two), "3:5=2 2:4=0 1:3=1");
        SwitchLevels one = chain("101010");
        one.set(2, 0);
        one.limit(1);
        check.due("limit 1: c and d go over in doubt", one.settle(), 4);
        check.due("they are unknown", Check.states(one), "100122");
        SwitchLevels still = chain("100101");
        still.limit(1);
        check.due("limit 1 without change", still.settle(), 1);
    }

    private static void settlingRing(Check check) {
        SwitchLevels x = Check.loaded(RING);
        Check.setAll(x, "10101");
        x.limit(4);
        check.due("four, three into doubt, and one", x.settle(), 8);
        check.due("all unknown", Check.states(x), "10222");
        check.due("steps", x.steps(), 8);
        check.due("changes", Check.changes(x), "7:2=2 6:4=2 5:3=2 4:2=1 3:4=0 2:3=1 1:2=0");
        check.due("settled", x.settle(), 1);
    }

    /** When the limit ends, b would become known: it stays unknown, and that is no change. */
    private static void dampedUnknownStays(Check check) {
        SwitchLevels x = chain("100");
        x.limit(1);
        check.due("one step and one that changes nothing", x.settle(), 2);
        check.due("only b became known", Check.states(x), "100122");
        check.due("one change", Check.changes(x), "1:3=1");
        check.due("without the limit's doubt c goes on", x.step(), 1);
        check.due("c is known", x.state(4), 0);
    }

    /** Doubt goes down a chain of 22 holders, one a step, long beyond the limit. */
    private static void longDoubt(Check check) {
        StringBuilder lines = new StringBuilder("i 1");
        for (int i = 0; i < 22; i++) {
            lines.append(";n ").append((char) ('a' + i)).append(" 1 ").append((char) ('b' + i));
        }
        SwitchLevels x = Check.loaded(lines.toString());
        check.due("all nodes in use", x.nodes(), 24);
        Check.setAll(x, "1" + "0".repeat(23));
        x.limit(1);
        check.due("nothing moves", x.settle(), 1);
        x.set(1, 2);
        check.due("one step, 21 beyond the limit, and one", x.settle(), 23);
        check.due("all are in doubt", Check.states(x), "1" + "2".repeat(23));
    }

    private static void statesOfNone(Check check) {
        SwitchLevels x = Check.loaded("i a;i b;i c");
        check.due("states at first", Check.states(x), "222");
        int[] none = {-1, 3, 23, 24, Integer.MAX_VALUE, Integer.MIN_VALUE};
        for (int n : none) {
            check.due("state of no node " + n, x.state(n), -1);
        }
        check.due("inputs stay as they are", x.settle(), 1);
        check.due("they did", Check.states(x), "222");
    }

    /** More than 32 changes: the ones before the latest 32 can't be asked for. */
    private static void manyChanges(Check check) {
        SwitchLevels x = Check.loaded("i v;i g;p a v b;n a g b;p b v a;n b g a");
        Check.setAll(x, "1000");
        for (int s = 1; s <= 40; s++) {
            x.step();
            // An object is good for 512 calls, so not every step can be asked about.
            for (int k = 0; k < 32 && (s == 1 || s % 8 <= 1); k++) {
                int at = s - k / 2;
                int want = at < 1 ? -1 : 128 * at + 4 * (3 - k % 2) + at % 2;
                check.due("step " + s + ", change " + k, x.change(k), want);
            }
            check.due("change 32 at step " + s, x.change(32), -1);
        }
    }

    private static void wrongChanges(Check check) {
        SwitchLevels x = chain("100");
        int[] wrong = {-1, 0, 1, 31, 32, 33, Integer.MAX_VALUE, Integer.MIN_VALUE};
        for (int k : wrong) {
            check.due("no change " + k, x.change(k), -1);
        }
        x.step();
        x.step();
        check.due("the latest", x.change(0), 128 * 2 + 4 * 4);
        check.due("the one before", x.change(1), 128 + 4 * 3 + 1);
        check.due("no third", x.change(2), -1);
        check.due("none after the latest", x.change(-1), -1);
    }
}
