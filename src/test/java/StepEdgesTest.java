/** Promises 12 to 15 and 19: each sentence on step, settle, steps, state and change that names an edge. */
public final class StepEdgesTest {
    private static final int[] NO_NODE = {-1, -2, 256, 65536, 1 << 30, Integer.MAX_VALUE, Integer.MIN_VALUE};

    private final Check check;

    private StepEdgesTest(Check check) {
        this.check = check;
    }

    public static void main(String[] args) {
        Check check = new Check();
        StepEdgesTest test = new StepEdgesTest(check);
        test.everyNodeThatIsNotLed();
        test.allAtOnce();
        test.countsWithoutAChange();
        test.howManyStatesChange();
        test.settlesUntilNothingChanges();
        test.atMostLimit();
        test.ifTheLastStillChanged();
        test.wouldChangeGets2();
        test.unknownStaysUnknown();
        test.furtherStepsToTheEnd();
        test.furtherStepsLeaveLedNodes();
        test.settlingEndsWithLimit50();
        test.stepsGrow();
        test.stepsBeyondAByte();
        test.stateOfANode();
        test.stateOfNone();
        test.changesByTheNumbers();
        test.changesOfStepsAlone();
        test.changesInDoubt();
        test.changesFrom0To31();
        test.noneOfTheChanges();
        test.changesWithinAStepPart();
        test.changeCodes();
        test.all512Calls();
        check.end();
    }

    /** Twelve pairs of holders, a with b, c with d, .., each pair joined for good. */
    private static SwitchLevels pairs() {
        StringBuilder lines = new StringBuilder();
        for (char a = 'a'; a < 'y'; a += 2) {
            lines.append("d a ").append(a).append(' ').append((char) (a + 1)).append(';');
        }
        return Check.loaded(lines.toString());
    }

    private void everyNodeThatIsNotLed() {
        check.sentence("Terms", "A STEP: every node that is not led gets the state that it comes to");
        SwitchLevels x = Check.loaded("i v;i w;d v v w;d v v a;d v v b;d v v c");
        Check.setAll(x, "10000");
        x.stick(3, 0);
        check.due("how many", x.step(), 2);
        check.due("inputs and stuck ones stay", Check.states(x), "10101");
        check.due("the first and the last node", pairsChanged(), "222222222222222222222222");
    }

    private static String pairsChanged() {
        SwitchLevels x = pairs();
        Check.setAll(x, "01".repeat(12));
        x.step();
        return Check.states(x);
    }

    private void allAtOnce() {
        check.sentence("Terms", "all at once");
        SwitchLevels up = Check.loaded("i v;n a v b;n b v c");
        Check.setAll(up, "1100");
        check.due("c does not see b's new state", up.step(), 1);
        check.due("one", Check.states(up), "1110");
        check.due("it does in the next step", up.step(), 1);
        check.due("two", Check.states(up), "1111");
        SwitchLevels down = Check.loaded("i v;s c 1;s b 1;s a 1;n a v b;n b v c");
        Check.setAll(down, "1001");
        check.due("also if c has the lesser number", down.step(), 1);
        check.due("one, there", Check.states(down), "1011");
    }

    private void countsWithoutAChange() {
        check.sentence("Terms", "the step COUNTS (the STEPS grow by 1) also if no state changes");
        SwitchLevels x = Check.loaded("i v;d v v a");
        x.set(0, 1);
        check.due("with a change", x.step(), 1);
        check.due("steps", x.steps(), 1);
        for (int i = 2; i < 6; i++) {
            check.due("without", x.step(), 0);
            check.due("steps then", x.steps(), i);
        }
        SwitchLevels empty = new SwitchLevels();
        check.due("without a node", empty.step(), 0);
        check.due("steps of no nodes", empty.steps(), 1);
    }

    private void howManyStatesChange() {
        check.sentence("Promise 12", "how many states change");
        for (int count = 0; count <= 12; count++) {
            SwitchLevels x = pairs();
            Check.setAll(x, "01".repeat(count) + "11".repeat(12 - count));
            check.due(2 * count + " of 24", x.step(), 2 * count);
            check.due("none then", x.step(), 0);
        }
    }

    private void settlesUntilNothingChanges() {
        check.sentence("Terms", "SETTLING: steps are made until one of them changes no state");
        for (int stages = 0; stages < 20; stages++) {
            SwitchLevels x = Check.fuse(stages);
            check.due(stages + " changes", x.settle(), stages + 1);
            check.due("steps", x.steps(), stages + 1);
            check.due("settled already", x.settle(), 1);
            check.due("steps then", x.steps(), stages + 2);
            check.due("all known", Check.states(x), stages == 0 ? "1" : "11" + "1".repeat(stages));
        }
        check.due("no node at all", new SwitchLevels().settle(), 1);
    }

    private void atMostLimit() {
        check.sentence("Terms", "but at most LIMIT (20 at first) of them");
        for (int limit = 1; limit <= 24; limit++) {
            for (int stages = 1; stages <= 22; stages++) {
                SwitchLevels x = Check.fuse(stages);
                if (limit != 20) {
                    x.limit(limit);
                }
                int known = Math.min(limit, stages);
                String what = stages + " changes with limit " + limit;
                check.due(what, x.settle(), stages + 1);
                check.due(what + ", states", Check.states(x), "11" + "1".repeat(known) + "2".repeat(stages - known));
                check.due(what + ", steps", x.steps(), stages + 1);
            }
        }
    }

    private void ifTheLastStillChanged() {
        check.sentence("Terms", "if the last of these still changed one, further steps are made");
        SwitchLevels still = Check.fuse(2);
        still.limit(3);
        check.due("the last of three changes none", still.settle(), 3);
        SwitchLevels moved = Check.fuse(3);
        moved.limit(3);
        check.due("the last of three changes one, and one is made in vain", moved.settle(), 4);
        check.due("nothing is in doubt", Check.states(moved), "11111");
        SwitchLevels one = Check.fuse(0);
        one.limit(1);
        check.due("the only one changes none", one.settle(), 1);
    }

    private void wouldChangeGets2() {
        check.sentence("Terms", "in which every node that would change gets the state 2 instead");
        SwitchLevels x = Check.loaded("i v;i g;i c;n c v a;p c g b;n a v d;p b g e");
        Check.setAll(x, "10");
        x.set(x.node('c'), 1);
        x.set(x.node('a'), 0);
        x.set(x.node('b'), 0);
        x.set(x.node('d'), 0);
        x.set(x.node('e'), 1);
        x.limit(1);
        // a goes to 1 and e to 0 within the limit; d, which would go to 1 then, is left in doubt.
        check.due("one step, a doubtful one, and one", x.settle(), 3);
        check.due("a", x.state(x.node('a')), 1);
        check.due("b held", x.state(x.node('b')), 0);
        check.due("d", x.state(x.node('d')), 2);
        check.due("e", x.state(x.node('e')), 0);
        check.due("the doubtful one is noted", x.change(0), 128 * 2 + 4 * x.node('d') + 2);
        SwitchLevels down = Check.loaded("i g;i c;p c g a;p a g b");
        Check.setAll(down, "0011");
        down.limit(1);
        check.due("from 1 too", down.settle(), 3);
        check.due("a within the limit, b in doubt", Check.states(down), "0002");
    }

    /** Beyond the limit a node in doubt that would become known stays as it is, and that is no change. */
    private void unknownStaysUnknown() {
        check.sentence("Terms", "in which every node that would change gets the state 2 instead");
        SwitchLevels x = Check.fuse(3);
        x.set(3, 2);
        x.set(4, 2);
        x.limit(1);
        check.due("one step and one in vain", x.settle(), 2);
        check.due("the unknown ones stay", Check.states(x), "11122");
        check.due("one change", Check.changes(x), "1:2=1");
        check.due("a step by itself makes it known", x.step(), 1);
        check.due("the next", Check.states(x), "11112");
    }

    private void furtherStepsToTheEnd() {
        check.sentence("Terms", "until one of them changes no state");
        SwitchLevels x = Check.fuse(22);
        x.limit(1);
        check.due("one, 21 into doubt, and one", x.settle(), 23);
        check.due("all behind are in doubt", Check.states(x), "111" + "2".repeat(21));
        check.due("steps", x.steps(), 23);
        check.due("changes", x.change(0), 128 * 22 + 4 * 23 + 2);
        check.due("it is settled but for what was doubtful", x.step(), 1);
    }

    private void furtherStepsLeaveLedNodes() {
        check.sentence("Terms", "A node is LED if it is an input or is STUCK");
        SwitchLevels x = Check.fuse(6);
        x.limit(2);
        x.stick(5, 0);
        check.due("as far as the stuck one", x.settle(), 4);
        check.due("it stays, and so do those behind", Check.states(x), "11112000");
        SwitchLevels ring = Check.loaded("i v;i g;p a v b;n a g b;p b v c;n b g c;p c v a;n c g a");
        Check.setAll(ring, "10101");
        ring.limit(1);
        ring.settle();
        check.due("inputs stay", ring.state(0) + " " + ring.state(1), "1 0");
    }

    private void settlingEndsWithLimit50() {
        check.sentence("Terms", "until one of them changes no state");
        SwitchLevels x = Check.loaded("i v;i g;p a v b;n a g b;p b v a;n b g a");
        Check.setAll(x, "1000");
        x.limit(50);
        check.due("two that cross, 50 times, once into doubt, and one", x.settle(), 52);
        check.due("both in doubt", Check.states(x), "1022");
        check.due("the last change", x.change(0), 128 * 51 + 4 * 3 + 2);
        check.due("the one before", x.change(1), 128 * 51 + 4 * 2 + 2);
        check.due("the last one within the limit", x.change(2), 128 * 50 + 4 * 3);
    }

    private void stepsGrow() {
        check.sentence("Promise 14", "STEPS");
        SwitchLevels x = Check.fuse(3);
        check.due("0 after loading", x.steps(), 0);
        x.step();
        check.due("by 1 with a step", x.steps(), 1);
        int made = x.settle();
        check.due("by what settling made", x.steps(), 1 + made);
        x.set(1, 0);
        x.stick(1, 1);
        x.free(1);
        x.jam(0, 0);
        x.limit(3);
        x.level(1, 0);
        x.group(1);
        x.wipe();
        x.write(Check.pack("?"));
        x.load();
        check.due("by nothing else", x.steps(), 1 + made);
        check.due("of a new object", new SwitchLevels().steps(), 0);
    }

    private void stepsBeyondAByte() {
        check.sentence("Promise 14", "STEPS");
        SwitchLevels x = Check.loaded("i v;i g;p a v b;n a g b;p b v a;n b g a");
        x.set(0, 1);
        x.set(1, 0);
        x.limit(50);
        for (int i = 1; i <= 90; i++) {
            x.set(2, 0);
            x.set(3, 0);
            check.due("settled for the " + i + "th time", x.settle(), 52);
            check.due("steps", x.steps(), 52 * i);
        }
        check.due("in the changes too", x.change(0), 128 * (52 * 90 - 1) + 4 * 3 + 2);
    }

    private void stateOfANode() {
        check.sentence("Promise 15", "The state of a node");
        SwitchLevels x = pairs();
        Check.setAll(x, "012".repeat(8));
        for (int n = 0; n < 24; n++) {
            check.due("state " + n, x.state(n), n % 3);
        }
    }

    private void stateOfNone() {
        check.sentence("Promise 15", "NONE if there is none");
        for (int count = 0; count <= 24; count++) {
            StringBuilder lines = new StringBuilder();
            for (int i = 0; i < count; i++) {
                lines.append("i ").append((char) ('a' + i)).append(';');
            }
            SwitchLevels x = Check.loaded(lines.toString());
            check.due("the last of " + count, x.state(count - 1), count == 0 ? -1 : 2);
            check.due("behind the last of " + count, x.state(count), -1);
            for (int n : NO_NODE) {
                check.due("state of " + n, x.state(n), -1);
            }
        }
        SwitchLevels smaller = pairs();
        Check.loadText(smaller, "i a");
        check.due("of a network that was", smaller.state(1), -1);
    }

    private void changesByTheNumbers() {
        check.sentence("Terms", "A CHANGE is noted for every node whose state changes in a step .. by the numbers of the nodes");
        SwitchLevels x = Check.loaded("i v;d v v a;d v v b;d v v c;d v v d");
        Check.setAll(x, "10010");
        x.step();
        check.due("those that change alone", Check.changes(x), "1:4=1 1:2=1 1:1=1");
        x.step();
        check.due("no more without a change", Check.changes(x), "1:4=1 1:2=1 1:1=1");
        x.set(0, 0);
        x.step();
        check.due("the latest step first", Check.changes(x), "3:4=0 3:3=0 3:2=0 3:1=0 1:4=1 1:2=1 1:1=1");
    }

    private void changesOfStepsAlone() {
        check.sentence("Terms", "(not by a call that sets it)");
        SwitchLevels x = Check.loaded("i v;d v v a");
        x.set(0, 1);
        x.set(1, 1);
        check.due("set before the step", x.step(), 0);
        check.due("is no change in it", x.change(0), -1);
        x.stick(1, 0);
        x.free(1);
        check.due("after stick and free none", x.change(0), -1);
        x.step();
        check.due("the step that follows notes one", Check.changes(x), "2:1=1");
    }

    private void changesInDoubt() {
        check.sentence("Terms", "A CHANGE is noted for every node whose state changes in a step");
        SwitchLevels x = Check.fuse(4);
        x.limit(2);
        x.settle();
        check.due("in further steps too", Check.changes(x), "4:5=2 3:4=2 2:3=1 1:2=1");
    }

    /** One change a step: asked for where the latest 32 of them begin to fall behind, once and twice round. */
    private void changesFrom0To31() {
        check.sentence("Promise 19", "the k-th from the latest one (0 .. 31)");
        SwitchLevels x = Check.loaded("i v;d v v a");
        for (int count = 1; count <= 70; count++) {
            x.set(0, count % 2);
            x.step();
            if (count <= 2 || count >= 31 && count <= 34 || count >= 63 && count <= 66 || count == 70) {
                checkAlternating(x, count);
            }
        }
    }

    private void checkAlternating(SwitchLevels x, int count) {
        int[] places = {0, 1, 15, 29, 30, 31};
        for (int k : places) {
            int at = count - k;
            check.due("change " + k + " of " + count, x.change(k), at < 1 ? -1 : 128 * at + 4 + at % 2);
        }
        check.due("change 32 of " + count, x.change(32), -1);
        check.due("change 33 of " + count, x.change(33), -1);
        check.due("change -1 of " + count, x.change(-1), -1);
    }

    private void noneOfTheChanges() {
        check.sentence("Promise 19", "NONE if there is none");
        int[] wrong = {-1, -2, -32, -31, 32, 33, 63, 64, 256, 65536, 1 << 30, Integer.MAX_VALUE, Integer.MIN_VALUE};
        SwitchLevels many = pairs();
        Check.setAll(many, "01".repeat(12));
        many.step();
        Check.setAll(many, "01".repeat(12));
        many.step();
        SwitchLevels fresh = Check.loaded("i a");
        for (int k : wrong) {
            check.due("change " + k + " of 48", many.change(k), -1);
            check.due("change " + k + " of none", fresh.change(k), -1);
            check.due("change " + k + " of a new object", new SwitchLevels().change(k), -1);
        }
        for (int k = 0; k < 32; k++) {
            check.due("change " + k + " of none", fresh.change(k), -1);
        }
        SwitchLevels three = Check.fuse(3);
        three.settle();
        check.due("the third of three", three.change(2), 128 + 4 * 2 + 1);
        check.due("no fourth", three.change(3), -1);
    }

    /** 24 changes in each step: the 32nd from the latest one stands within the step before. */
    private void changesWithinAStepPart() {
        check.sentence("Promise 19", "the k-th from the latest one (0 .. 31)");
        SwitchLevels x = pairs();
        for (int step = 1; step <= 4; step++) {
            Check.setAll(x, "01".repeat(12));
            x.step();
            for (int k = 0; k < 32; k++) {
                int at = k < 24 ? step : step - 1;
                int want = at == 0 ? -1 : 128 * at + 4 * (23 - k % 24) + 2;
                check.due("change " + k + " after step " + step, x.change(k), want);
            }
            check.due("no 33rd after step " + step, x.change(32), -1);
        }
    }

    private void changeCodes() {
        check.sentence("Promise 19", "128 times STEPS as it was after the step, 4 times the node, and its new state");
        SwitchLevels x = Check.loaded("i v;d v v a;d v v b");
        Check.setAll(x, "001");
        x.step();
        check.due("to 0", x.change(0), 128 + 8);
        x.set(0, 1);
        x.step();
        check.due("to 1", x.change(0) + " " + x.change(1), 256 + 8 + 1 + " " + (256 + 4 + 1));
        x.step();
        x.set(0, 2);
        x.step();
        check.due("to 2, after a step without a change", x.change(0) + " " + x.change(1), 512 + 8 + 2 + " " + (512 + 4 + 2));
        SwitchLevels last = pairs();
        Check.setAll(last, "1".repeat(23) + "0");
        last.step();
        check.due("the last node", last.change(0), 128 + 4 * 23 + 2);
        SwitchLevels first = Check.loaded("s a 1;i v;d v v a");
        first.set(1, 0);
        first.step();
        check.due("the first node", first.change(0), 128);
    }

    private void all512Calls() {
        check.sentence("What it is", "An object is used for at most 512 calls after it has been made");
        SwitchLevels x = Check.loaded("i v;d v v a");
        // wipe, two writes and load were the first four calls.
        for (int call = 5; call < 511; call += 2) {
            int step = (call - 3) / 2;
            x.set(0, step % 2);
            check.due("step " + step, x.step(), 1);
        }
        check.due("the 511th call", x.steps(), 253);
        check.due("the 512th call", x.change(31), 128 * (253 - 31) + 4 + (253 - 31) % 2);
    }
}
