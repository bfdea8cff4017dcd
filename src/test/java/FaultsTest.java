/** Promises 7 to 11: set, stick, free, jam and limit. */
public final class FaultsTest {
    private static final String RING = "i v;i g;p a v b;n a g b;p b v c;n b g c;p c v a;n c g a";

    public static void main(String[] args) {
        Check check = new Check();
        setting(check);
        sticking(check);
        freeing(check);
        stuckOnesLead(check);
        jamming(check);
        jamsAtWork(check);
        limits(check);
        check.end();
    }

    private static void setting(Check check) {
        SwitchLevels x = Check.loaded("i a;n a b c");
        for (int n = 0; n < 3; n++) {
            for (int state = 0; state < 3; state++) {
                check.due("set " + n + " " + state, x.set(n, state), true);
                check.due("its state", x.state(n), state);
            }
        }
        Check.setAll(x, "010");
        int[] wrongNodes = {-1, 3, 24, Integer.MAX_VALUE, Integer.MIN_VALUE};
        for (int n : wrongNodes) {
            check.due("set no node " + n, x.set(n, 1), false);
        }
        int[] wrongStates = {-1, 3, Integer.MAX_VALUE, Integer.MIN_VALUE};
        for (int state : wrongStates) {
            check.due("set no state " + state, x.set(1, state), false);
            check.due("set no state of an input " + state, x.set(0, state), false);
        }
        check.due("nothing changed", Check.states(x), "010");
        check.due("setting is no step", x.steps(), 0);
        check.due("setting notes no change", x.change(0), -1);
        check.due("a set charge is held", x.step(), 0);
        check.due("by both", Check.states(x), "010");
    }

    private static void sticking(Check check) {
        SwitchLevels x = Check.loaded("i a;n a b c");
        Check.setAll(x, "101");
        check.due("an input", x.stick(0, 0), false);
        int[] wrongNodes = {-1, 3, 24, Integer.MAX_VALUE, Integer.MIN_VALUE};
        for (int n : wrongNodes) {
            check.due("stick no node " + n, x.stick(n, 1), false);
        }
        int[] wrongStates = {-1, 3, Integer.MAX_VALUE, Integer.MIN_VALUE};
        for (int state : wrongStates) {
            check.due("stick no state " + state, x.stick(1, state), false);
        }
        check.due("nothing changed", Check.states(x), "101");
        check.due("none is stuck by a refused call", x.set(1, 1), true);
        for (int state = 0; state < 3; state++) {
            check.due("stuck, also again", x.stick(1, state), true);
            check.due("it has the state", x.state(1), state);
            check.due("it can't be set", x.set(1, 1), false);
            check.due("it keeps the state", x.state(1), state);
        }
        check.due("a wrong state when stuck", x.stick(1, 3), false);
        check.due("it is stuck as before", x.state(1), 2);
        check.due("the others can be set", x.set(2, 0), true);
        check.due("an input can be set", x.set(0, 0), true);
        check.due("no change is noted", x.change(0), -1);
        check.due("no step is made", x.steps(), 0);
    }

    private static void freeing(Check check) {
        SwitchLevels x = Check.loaded("i a;n a b c");
        int[] notStuck = {-1, 0, 1, 2, 3, 24, Integer.MAX_VALUE, Integer.MIN_VALUE};
        for (int n : notStuck) {
            check.due("free " + n, x.free(n), false);
        }
        x.stick(1, 0);
        check.due("another one", x.free(2), false);
        check.due("the stuck one", x.free(1), true);
        check.due("it keeps its state", x.state(1), 0);
        check.due("it is stuck no more", x.free(1), false);
        check.due("it can be set", x.set(1, 1), true);
        check.due("it can be stuck again", x.stick(1, 2), true);
        check.due("it can be freed again", x.free(1), true);
    }

    private static void stuckOnesLead(Check check) {
        SwitchLevels x = Check.loaded("i v;d v v a 3;d a a b 1;s b 3");
        x.set(0, 1);
        x.settle();
        check.due("all follow v", Check.states(x), "111");
        x.stick(1, 0);
        check.due("its levels", Check.levels(x, 1), "7 0 7");
        check.due("b's levels", Check.levels(x, 2), "4 0 4");
        check.due("it stands against v", x.settle(), 2);
        check.due("and leads b", Check.states(x), "100");
        check.due("b changed, a did not", Check.changes(x), "3:2=0 1:2=1 1:1=1");
        x.free(1);
        check.due("free, a follows v again, then b", x.step(), 2);
        check.due("all follow v again", Check.states(x), "111");
    }

    private static void jamming(Check check) {
        SwitchLevels x = Check.loaded("i a;n a b c;p a b c;d a b c");
        for (int state = 0; state < 3; state++) {
            x.set(0, state);
            String free = x.conducts(0) + " " + x.conducts(1) + " " + x.conducts(2);
            check.due("as the gate has " + state, free, state == 0 ? "0 1 1" : state == 1 ? "1 0 1" : "2 2 1");
            for (int how = 0; how < 3; how++) {
                for (int t = 0; t < 3; t++) {
                    check.due("jam " + t + " " + how, x.jam(t, how), true);
                    check.due("as it is jammed", x.conducts(t), how);
                }
            }
            for (int t = 0; t < 3; t++) {
                check.due("jam no more " + t, x.jam(t, 3), true);
            }
            check.due("as before", x.conducts(0) + " " + x.conducts(1) + " " + x.conducts(2), free);
        }
        check.due("one that is not jammed", x.jam(0, 3), true);
        x.jam(2, 0);
        int[] wrongTransistors = {-1, 3, 30, Integer.MAX_VALUE, Integer.MIN_VALUE};
        for (int t : wrongTransistors) {
            check.due("jam no transistor " + t, x.jam(t, 0), false);
        }
        int[] wrongHows = {-1, 4, Integer.MAX_VALUE, Integer.MIN_VALUE};
        for (int how : wrongHows) {
            check.due("jam wrongly " + how, x.jam(2, how), false);
        }
        check.due("nothing changed", x.conducts(0) + " " + x.conducts(1) + " " + x.conducts(2), "2 2 0");
    }

    private static void jamsAtWork(Check check) {
        SwitchLevels x = Check.loaded("i v;i c;n c v a");
        Check.setAll(x, "100");
        check.due("off: a holds", x.step(), 0);
        x.jam(0, 1);
        check.due("jammed on: a follows", x.step(), 1);
        check.due("v", x.state(2), 1);
        x.set(0, 0);
        x.jam(0, 2);
        check.due("jammed unsure: a is in doubt", x.step(), 1);
        check.due("unknown", x.state(2), 2);
        x.set(2, 1);
        x.set(1, 1);
        x.jam(0, 0);
        check.due("jammed off: a holds though c is 1", x.step(), 0);
        x.jam(0, 3);
        check.due("jammed no more: a follows", x.step(), 1);
        check.due("v again", x.state(2), 0);
    }

    private static int stepsToSettleRing(SwitchLevels x) {
        Check.setAll(x, "10101");
        return x.settle();
    }

    private static void limits(Check check) {
        SwitchLevels x = Check.loaded(RING);
        check.due("at first 20", stepsToSettleRing(x), 20 + 3 + 1);
        int[] good = {1, 2, 7, 49, 50, 20};
        for (int n : good) {
            check.due("limit " + n, x.limit(n), true);
            check.due("the ring runs so long", stepsToSettleRing(x), n + 3 + 1);
        }
        int[] bad = {0, -1, 51, Integer.MAX_VALUE, Integer.MIN_VALUE};
        for (int n : bad) {
            check.due("limit " + n, x.limit(n), false);
        }
        check.due("still 20", stepsToSettleRing(x), 20 + 3 + 1);
        SwitchLevels early = new SwitchLevels();
        check.due("without a network", early.limit(5), true);
        Check.loadText(early, RING.replace(';', '\n'));
        check.due("kept over loading", stepsToSettleRing(early), 5 + 3 + 1);
    }
}
