/** Promises 7 to 11: each sentence on set, stick, free, jam and limit that names an edge. */
public final class CallEdgesTest {
    /** Twins.busy() has the nodes v0 g1 a2 b3 c4 e5, v and g inputs, c stuck, and the transistors 0 .. 6. */
    private static final int NODES = 6;
    private static final int STUCK = 4;

    private static final int[] NO_NODE = {-1, NODES, NODES + 1, 23, 24, 255, 256, 65536, 1 << 30, -2, -256,
        Integer.MAX_VALUE, Integer.MIN_VALUE};
    private static final int[] NO_STATE = {-1, 3, 4, 256, 257, 65536, -2, -255, Integer.MAX_VALUE, Integer.MIN_VALUE};

    private final Check check;
    private final Twins twins;

    private CallEdgesTest(Check check) {
        this.check = check;
        this.twins = new Twins(check, Twins::busy);
    }

    public static void main(String[] args) {
        Check check = new Check();
        CallEdgesTest test = new CallEdgesTest(check);
        test.setsAnyThatIsNotStuck();
        test.setNoSuchNode();
        test.setStuck();
        test.setNoState();
        test.setIsNoChange();
        test.sticksFromNowOn();
        test.stickNoSuchNode();
        test.stickInput();
        test.stickNoState();
        test.stickAgain();
        test.freesAndKeepsTheState();
        test.freeNoSuchNode();
        test.freeNotStuck();
        test.jamsEachWay();
        test.jamNoMore();
        test.jamNoSuchTransistor();
        test.jamNoSuchWay();
        test.limitsFrom1To50();
        test.limitRefused();
        check.end();
    }

    private void setsAnyThatIsNotStuck() {
        check.sentence("Promise 7", "An input, or any node that is not stuck, gets a state");
        SwitchLevels x = Twins.busy();
        for (int n = 0; n < NODES; n++) {
            for (int state = 0; state < 3; state++) {
                check.due("set " + n + " " + state, x.set(n, state), n != STUCK);
                check.due("state " + n, x.state(n), n == STUCK ? 1 : state);
            }
        }
        check.due("no other node gets it", Check.states(x), "222212");
        x.free(STUCK);
        check.due("one that was stuck", x.set(STUCK, 0), true);
        check.due("its state", x.state(STUCK), 0);
    }

    private void setNoSuchNode() {
        check.sentence("Promise 7", "false, changing nothing, if there is no such node");
        for (int n : NO_NODE) {
            twins.refuse("set " + n, x -> x.set(n, 1));
            twins.refuse("set " + n + " 0", x -> x.set(n, 0));
        }
        SwitchLevels x = Twins.busy();
        check.due("the first", x.set(0, 0), true);
        check.due("the last", x.set(NODES - 1, 0), true);
    }

    private void setStuck() {
        check.sentence("Promise 7", "false, changing nothing, if .. it is stuck");
        for (int state = 0; state < 3; state++) {
            int to = state;
            twins.refuse("set a stuck one to " + to, x -> x.set(STUCK, to));
        }
        SwitchLevels x = Twins.busy();
        check.due("the one before it", x.set(STUCK - 1, 2), true);
        check.due("the one behind it", x.set(STUCK + 1, 2), true);
    }

    private void setNoState() {
        check.sentence("Promise 7", "false, changing nothing, if .. state is not 0 .. 2");
        for (int state : NO_STATE) {
            twins.refuse("set a node to " + state, x -> x.set(3, state));
            twins.refuse("set an input to " + state, x -> x.set(0, state));
            twins.refuse("set a stuck one to " + state, x -> x.set(STUCK, state));
        }
        check.due("0 is one", Twins.busy().set(3, 0), true);
        check.due("2 is one", Twins.busy().set(3, 2), true);
    }

    private void setIsNoChange() {
        check.sentence("Terms", "(not by a call that sets it)");
        SwitchLevels x = Twins.busy();
        String before = Check.changes(x);
        int steps = x.steps();
        x.set(0, 0);
        x.set(2, 2);
        x.set(3, 1);
        x.stick(5, 0);
        x.stick(STUCK, 2);
        x.free(STUCK);
        x.jam(0, 1);
        check.due("changes", Check.changes(x), before);
        check.due("steps", x.steps(), steps);
        SwitchLevels none = Check.loaded("i a;n a b c");
        none.set(0, 1);
        none.set(1, 0);
        none.stick(2, 1);
        check.due("none at all", none.change(0), -1);
    }

    private void sticksFromNowOn() {
        check.sentence("Promise 8", "Node n is stuck with a state from now on");
        for (int state = 0; state < 3; state++) {
            SwitchLevels x = Check.loaded("i v;d v v a 3;s b 1");
            for (int lead = 0; lead < 3; lead++) {
                check.due("stick at " + state, x.stick(1, state), true);
                x.set(0, lead);
                check.due("no step moves it", x.step(), 0);
                check.due("no settling either", x.settle(), 1);
                check.due("it has " + state, x.state(1), state);
            }
            check.due("it is led", x.level(1, 0), 7);
            check.due("the last node", x.stick(2, state), true);
            check.due("has " + state + " too", x.state(2), state);
        }
        check.due("the first node", Check.loaded("s a 1").stick(0, 0), true);
    }

    private void stickNoSuchNode() {
        check.sentence("Promise 8", "false, changing nothing, if there is no such node");
        for (int n : NO_NODE) {
            twins.refuse("stick " + n, x -> x.stick(n, 1));
            twins.refuse("stick " + n + " at 0", x -> x.stick(n, 0));
        }
        check.due("the last", Twins.busy().stick(NODES - 1, 0), true);
    }

    private void stickInput() {
        check.sentence("Promise 8", "false, changing nothing, if .. it is an input");
        for (int state = 0; state < 3; state++) {
            int to = state;
            twins.refuse("stick the first input at " + to, x -> x.stick(0, to));
            twins.refuse("stick the last input at " + to, x -> x.stick(1, to));
        }
        check.due("the first that is none", Twins.busy().stick(2, 0), true);
    }

    private void stickNoState() {
        check.sentence("Promise 8", "false, changing nothing, if .. state is not 0 .. 2");
        for (int state : NO_STATE) {
            twins.refuse("stick at " + state, x -> x.stick(2, state));
            twins.refuse("stick a stuck one at " + state, x -> x.stick(STUCK, state));
            twins.refuse("stick an input at " + state, x -> x.stick(0, state));
        }
    }

    private void stickAgain() {
        check.sentence("Promise 8", "(It may be stuck already.)");
        SwitchLevels x = Twins.busy();
        int[] states = {1, 0, 2, 2, 1};
        for (int state : states) {
            check.due("again at " + state, x.stick(STUCK, state), true);
            check.due("it has it", x.state(STUCK), state);
        }
        check.due("freed once", x.free(STUCK), true);
        check.due("it is free", x.free(STUCK), false);
    }

    private void freesAndKeepsTheState() {
        check.sentence("Promise 9", "Node n is stuck no more; it keeps its state");
        for (int state = 0; state < 3; state++) {
            SwitchLevels x = Check.loaded("i v;d v v a 3;s b 1");
            x.set(0, 1);
            x.set(1, 1);
            x.set(2, 1);
            x.stick(1, state);
            x.stick(2, state);
            check.due("free the one", x.free(1), true);
            check.due("free the last", x.free(2), true);
            check.due("they keep " + state, x.state(1) + " " + x.state(2), state + " " + state);
            check.due("led no more", x.level(1, 0) + " " + x.level(2, 0), "6 1");
            x.step();
            check.due("one follows again, the other holds", x.state(1) + " " + x.state(2), "1 " + state);
            check.due("it can be set", x.set(1, 0), true);
            check.due("and stuck", x.stick(1, 2), true);
        }
        SwitchLevels both = Check.loaded("s a 1;s b 1");
        both.stick(0, 1);
        both.stick(1, 1);
        check.due("the first", both.free(0), true);
        check.due("not the other with it", both.set(1, 0), false);
    }

    private void freeNoSuchNode() {
        check.sentence("Promise 9", "False, changing nothing, if there is no such node");
        for (int n : NO_NODE) {
            twins.refuse("free " + n, x -> x.free(n));
        }
    }

    private void freeNotStuck() {
        check.sentence("Promise 9", "False, changing nothing, if .. it is not stuck");
        for (int n = 0; n < NODES; n++) {
            int one = n;
            if (n != STUCK) {
                twins.refuse("free " + one, x -> x.free(one));
            }
        }
        SwitchLevels x = Twins.busy();
        check.due("the stuck one", x.free(STUCK), true);
        check.due("twice", x.free(STUCK), false);
        check.due("a stuck one by a refused call is none", refusedThenFreed(), false);
    }

    private static boolean refusedThenFreed() {
        SwitchLevels x = Twins.busy();
        x.stick(2, 3);
        return x.free(2);
    }

    private static String conducting(SwitchLevels x) {
        return x.conducts(0) + " " + x.conducts(1) + " " + x.conducts(2);
    }

    private void jamsEachWay() {
        check.sentence("Promise 10", "Transistor t is jammed off (how 0), on (1) or unsure (2), or no more (3)");
        for (int gate = 0; gate < 3; gate++) {
            SwitchLevels x = Check.loaded("i g;n g a b;p g a b;d g a b");
            x.set(0, gate);
            for (int first = 0; first < 4; first++) {
                for (int how = 0; how < 3; how++) {
                    for (int t = 0; t < 3; t++) {
                        x.jam(t, first);
                        check.due("jam " + t + " from " + first + " to " + how, x.jam(t, how), true);
                    }
                    check.due("jammed " + how, conducting(x), how + " " + how + " " + how);
                }
            }
            x.set(0, (gate + 1) % 3);
            check.due("the gate does not count", conducting(x), "2 2 2");
        }
    }

    private void jamNoMore() {
        check.sentence("Promise 10", "or no more (3)");
        for (int gate = 0; gate < 3; gate++) {
            SwitchLevels x = Check.loaded("i g;n g a b;p g a b;d g a b");
            x.set(0, gate);
            String free = conducting(x);
            for (int how = 0; how < 4; how++) {
                for (int t = 0; t < 3; t++) {
                    x.jam(t, how);
                    check.due("no more after " + how, x.jam(t, 3), true);
                }
                check.due("as if never jammed", conducting(x), free);
            }
            check.due("one alone", x.jam(1, gate == 0 ? 0 : 1), true);
            String[] parts = free.split(" ");
            check.due("the others stay", conducting(x), parts[0] + " " + (gate == 0 ? 0 : 1) + " " + parts[2]);
        }
    }

    private void jamNoSuchTransistor() {
        check.sentence("Promise 10", "False, changing nothing, if there is no such transistor");
        int[] none = {-1, 7, 8, 29, 30, 256, 65536, -2, Integer.MAX_VALUE, Integer.MIN_VALUE};
        Twins seven = new Twins(check, CallEdgesTest::sevenTransistors);
        for (int t : none) {
            for (int how = 0; how < 4; how++) {
                int to = how;
                seven.refuse("jam " + t + " " + to, x -> x.jam(t, to));
            }
        }
        check.due("the first", sevenTransistors().jam(0, 0), true);
        check.due("the last", sevenTransistors().jam(6, 0), true);
        SwitchLevels full = Check.loaded("d a b c;".repeat(30));
        check.due("the 30th", full.jam(29, 0), true);
        check.due("it is jammed", full.conducts(29) + " " + full.conducts(28), "0 1");
        check.due("a 31st", full.jam(30, 0), false);
        check.due("none without a network", new SwitchLevels().jam(0, 3), false);
        check.due("none of nodes alone", Check.loaded("i a").jam(0, 0), false);
    }

    /** All of Twins.busy() with the last transistor jammed on. */
    private static SwitchLevels sevenTransistors() {
        SwitchLevels x = Twins.busy();
        x.jam(6, 1);
        return x;
    }

    private void jamNoSuchWay() {
        check.sentence("Promise 10", "False, changing nothing, if .. how is not 0 .. 3");
        int[] wrong = {-1, 4, 5, 256, 259, 65536, -2, -253, Integer.MAX_VALUE, Integer.MIN_VALUE};
        for (int how : wrong) {
            twins.refuse("jam the first " + how, x -> x.jam(0, how));
            twins.refuse("jam the last " + how, x -> x.jam(6, how));
        }
        SwitchLevels x = Twins.busy();
        x.jam(0, 2);
        check.due("a jammed one", x.jam(0, 4), false);
        check.due("stays as it is jammed", x.conducts(0), 2);
        check.due("also below", x.jam(0, -1), false);
        check.due("it stays", x.conducts(0), 2);
    }

    /** A ring of three inverters that runs until the limit, and then takes 3 steps into doubt and one more. */
    private static SwitchLevels ring() {
        SwitchLevels x = Check.loaded("i v;i g;p a v b;n a g b;p b v c;n b g c;p c v a;n c g a");
        Check.setAll(x, "10101");
        return x;
    }

    private void limitsFrom1To50() {
        check.sentence("Promise 11", "LIMIT becomes n");
        check.due("20 at first", ring().settle(), 24);
        for (int n = 1; n <= 50; n++) {
            SwitchLevels x = ring();
            check.due("limit " + n, x.limit(n), true);
            check.due("settled with limit " + n, x.settle(), n + 4);
        }
        SwitchLevels x = ring();
        x.limit(50);
        x.limit(1);
        check.due("the last one counts", x.settle(), 5);
    }

    private void limitRefused() {
        check.sentence("Promise 11", "false, changing nothing, if n is not 1 .. 50");
        int[] wrong = {0, -1, 51, 52, -50, 256, 257, 65537, Integer.MAX_VALUE, Integer.MIN_VALUE};
        for (int n : wrong) {
            twins.refuse("limit " + n, x -> x.limit(n));
            SwitchLevels first = ring();
            check.due("limit " + n + " at first", first.limit(n), false);
            check.due("it is still 20", first.settle(), 24);
            SwitchLevels early = new SwitchLevels();
            check.due("limit " + n + " of a new object", early.limit(n), false);
        }
    }
}
