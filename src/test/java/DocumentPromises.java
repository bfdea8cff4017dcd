/** The promises 1 to 19, sentence after sentence. */
final class DocumentPromises {
    private static final int[] FAR = {-1, 24, 30, 256, 65536, Integer.MAX_VALUE, Integer.MIN_VALUE};

    private final Check check;
    private final Document document;
    private final Twins twins;

    DocumentPromises(Check check, Document document) {
        this.check = check;
        this.document = document;
        this.twins = new Twins(check, Twins::busy);
    }

    void walk() {
        aNewObject();
        write();
        wipe();
        load();
        nodes();
        node();
        set();
        stick();
        free();
        jam();
        limit();
        step();
        settle();
        steps();
        state();
        level();
        group();
        conducts();
        change();
    }

    private void aNewObject() {
        document.heading("## Promise 1: A new object `SwitchLevels()`:");
        document.sentence("The text is empty; there is no node; LIMIT is 20.");
        check.due("the text", Check.room(new SwitchLevels()), 480);
        SwitchLevels x = new SwitchLevels();
        check.due("nodes", x.nodes() + " " + x.state(0), "0 -1");
        check.due("so no transistor", x.conducts(0) + " " + x.jam(0, 3), "-1 false");
        check.due("loading the empty text", x.load(), 0);
        check.due("no node of it", x.nodes(), 0);
        SwitchLevels ring = ring();
        check.due("20 steps, three into doubt, and one", ring.settle(), 24);
    }

    /** Three that invert each other: they run until LIMIT, and are in doubt after three steps more. */
    private static SwitchLevels ring() {
        SwitchLevels x = Check.loaded("i v;i g;p a v b;n a g b;p b v c;n b g c;p c v a;n c g a");
        Check.setAll(x, "10101");
        return x;
    }

    private void write() {
        document.heading("## Promise 2: write `boolean write(long characters)`:");
        document.sentence("Adds the characters in the eight bytes of a long, the lowest first, to the text; bytes 0 are left out.");
        SwitchLevels x = new SwitchLevels();
        check.due("all eight bytes", x.write(Check.pack("n a b cd")), true);
        check.due("none of them", x.write(0), true);
        check.due("some of them", x.write(Check.pack("\0e\0\0f\0\n\0")), true);
        check.due("the highest alone", x.write((long) 'i' << 56), true);
        check.due("the lowest alone", x.write(' '), true);
        check.due("behind the others", x.write((long) 'g' << 40), true);
        check.due("load", x.load(), 1);
        check.due("cdef", x.node(Check.pack("cdef")), 2);
        check.due("g", x.node('g'), 3);
        check.due("room", Check.room(x), 480 - 14);
        document.sentence("False, adding none, if another byte is no such character or there would be more than 480.");
        twins.refuse("a tab", z -> z.write(Check.pack("bc\td")));
        twins.refuse("a 127", z -> z.write(Check.pack("b\n\u007F")));
        twins.refuse("a 255", z -> z.write(0xFF00000000000062L));
        Twins full = new Twins(check, DocumentPromises::almostFull);
        full.refuse("three to 478", z -> z.write(Check.pack("\n z")));
        full.refuse("three among zeros", z -> z.write(Check.pack("b\0\0b\0\0\0b")));
        check.due("two to 478", almostFull().write(Check.pack("bc")), true);
    }

    /** Twins.busy() with a text of 478 characters. */
    private static SwitchLevels almostFull() {
        SwitchLevels x = Twins.busy();
        x.wipe();
        Check.writeAll(x, " ".repeat(475) + "i a");
        return x;
    }

    private void wipe() {
        document.heading("## Promise 3: wipe `void wipe()`:");
        document.sentence("Makes the text empty.");
        SwitchLevels x = Twins.busy();
        String before = Twins.picture(x);
        x.wipe();
        check.due("not the network", Twins.picture(x), before);
        check.due("loaded then", x.load(), 0);
        check.due("nodes then", x.nodes(), 0);
        SwitchLevels full = almostFull();
        full.wipe();
        check.due("room then", Check.room(full), 480);
    }

    private void load() {
        document.heading("## Promise 4: load `int load()`:");
        document.sentence("Makes the network that the text tells, in the place of the one that was: how many transistors it has; "
            + "all states are 2, no node is stuck, nothing is jammed, STEPS is 0 and no change is noted.");
        SwitchLevels x = Twins.busy();
        x.stick(0, 1);
        x.stick(2, 1);
        x.stick(3, 1);
        x.jam(0, 0);
        x.wipe();
        Check.writeAll(x, "n a b c\np b a c\ni v\ns d 3");
        check.due("how many transistors", x.load(), 2);
        check.due("nodes", x.nodes(), 5);
        check.due("names of the one that was", x.node('g') + " " + x.node('e') + " " + x.node('f'), "-1 -1 -1");
        check.due("names", x.node('a') + " " + x.node('c') + " " + x.node('v') + " " + x.node('d'), "0 2 3 4");
        check.due("states", Check.states(x), "22222");
        for (int n = 0; n < 5; n++) {
            check.due("stuck " + n, x.free(n), false);
        }
        check.due("inputs", x.stick(3, 0) + " " + x.stick(0, 0), "false true");
        check.due("STEPS", x.steps(), 0);
        check.due("changes", x.change(0), -1);
        loadAgain();
        badLoad();
    }

    private void loadAgain() {
        SwitchLevels x = Check.loaded("n g a b;p g a b;i v;d v v c");
        x.set(2, 1);
        for (int round = 0; round < 3; round++) {
            x.jam(0, round);
            x.jam(1, round);
            x.jam(2, 0);
            x.stick(0, 1);
            x.set(3, 1);
            x.step();
            check.due("the same text again", x.load(), 3);
            check.due("states", Check.states(x), "22222");
            check.due("unsure and on", x.conducts(0) + " " + x.conducts(1) + " " + x.conducts(2), "2 2 1");
            check.due("STEPS and changes", x.steps() + " " + x.change(0), "0 -1");
            check.due("stuck", x.free(0), false);
        }
        String[] texts = {"i a\nd a b c\nn a c d", "n a b c\ni c\ns b 1\ns d 3", "s a 3\ns b 1\ns c 2\ns d 1"};
        String[] groups = {"-1 1 1 1", "0 1 -1 3", "0 1 2 3"};
        int[] sizes = {2, 1, 1};
        for (int i = 0; i < 9; i++) {
            check.due("one text after the other", Check.loadText(x, texts[i % 3]), 2 - i % 3);
            check.due("its inputs and groups", Check.groups(x), groups[i % 3]);
            check.due("a size of it", x.level(1, 0), sizes[i % 3]);
        }
    }

    private void badLoad() {
        document.sentence("If a line is bad: its number (from 1) times -1, and nothing changes.");
        String[] texts = {"?", "i z\n?", "n z g b\n\n|\ni b\ni", "i a\n= a b\n?"};
        int[] due = {-1, -2, -5, -2};
        for (int i = 0; i < texts.length; i++) {
            String text = texts[i];
            int answer = due[i];
            Twins bad = new Twins(check, () -> {
                SwitchLevels x = Twins.busy();
                x.wipe();
                Check.writeAll(x, text);
                return x;
            });
            check.due(text.replace('\n', ';'), Check.loadText(new SwitchLevels(), text), answer);
            bad.refuse(text.replace('\n', ';') + " on a busy one", x -> x.load() != answer);
        }
    }

    private void nodes() {
        document.heading("## Promise 5: nodes `int nodes()`:");
        document.sentence("How many nodes there are.");
        String[] lines = {"", "i a", "n a b c", "n a a a", "n a b c;= d a;= e f", "p a b c;d e f g;i h;s k 1"};
        int[] due = {0, 1, 3, 1, 4, 8};
        for (int i = 0; i < lines.length; i++) {
            check.due(lines[i], Check.loaded(lines[i]).nodes(), due[i]);
        }
    }

    private void node() {
        document.heading("## Promise 6: node `int node(long name)`:");
        document.sentence("The node that a name is known for (given by its characters in the lowest bytes, the first in the "
            + "lowest one, and 0 in all bytes above them); NONE if it is not known (or this is no name).");
        SwitchLevels x = Check.loaded("i a;i ab;i ba;i abc0;= z ba;= zz z");
        String[] known = {"a", "ab", "ba", "abc0", "z", "zz"};
        int[] due = {0, 1, 2, 3, 2, 2};
        for (int i = 0; i < known.length; i++) {
            check.due(known[i], x.node(Check.pack(known[i])), due[i]);
        }
        check.due("the first in the lowest byte", x.node(0x6261L), 1);
        String[] unknown = {"", "b", "abc", "abc00", "zzz", " ", "A", "a ", "\0a", "a\0b", "ab\0\0c", "a\0\0\0\0\0\0a"};
        for (String name : unknown) {
            check.due("not known: " + name.replace('\0', '.'), x.node(Check.pack(name)), -1);
        }
        check.due("all bytes 255", x.node(-1L), -1);
        check.due("of a new object", new SwitchLevels().node('a') + " " + new SwitchLevels().node(0), "-1 -1");
    }

    private void set() {
        document.heading("## Promise 7: set `boolean set(int n, int state)`:");
        document.sentence("An input, or any node that is not stuck, gets a state; false, changing nothing, if there is no such "
            + "node, it is stuck, or state is not 0 .. 2.");
        SwitchLevels x = Twins.busy();
        for (int n = 0; n < 6; n++) {
            for (int state = 0; state < 3; state++) {
                check.due("set " + n + " " + state, x.set(n, state), n != 4);
                check.due("state of " + n, x.state(n), n == 4 ? 1 : state);
            }
        }
        check.due("all states", Check.states(x), "222212");
        for (int n : FAR) {
            twins.refuse("set " + n, z -> z.set(n, 0));
            twins.refuse("set to " + n, z -> z.set(0, n) || z.set(3, n));
        }
        twins.refuse("behind the last", z -> z.set(6, 0));
        twins.refuse("a stuck one", z -> z.set(4, 0) || z.set(4, 1) || z.set(4, 2));
        twins.refuse("to 3", z -> z.set(0, 3) || z.set(2, 3));
    }

    private void stick() {
        document.heading("## Promise 8: stick `boolean stick(int n, int state)`:");
        document.sentence("Node n is stuck with a state from now on; false, changing nothing, if there is no such node, it is an "
            + "input, or state is not 0 .. 2.");
        for (int state = 0; state < 3; state++) {
            SwitchLevels x = Check.loaded("i v;d v v a;d v a b");
            Check.setAll(x, "111");
            check.due("stick at " + state, x.stick(1, state), true);
            check.due("its state", x.state(1), state);
            x.set(0, 1 - state / 2);
            x.settle();
            check.due("its state and that behind it", x.state(1) + " " + x.state(2), state + " " + state);
            check.due("set", x.set(1, 1), false);
            check.due("led", x.level(1, 0) + " " + x.group(1), "7 -1");
        }
        for (int n : FAR) {
            twins.refuse("stick " + n, z -> z.stick(n, 0));
            twins.refuse("stick at " + n, z -> z.stick(2, n) || z.stick(4, n));
        }
        twins.refuse("behind the last", z -> z.stick(6, 0));
        twins.refuse("inputs", z -> z.stick(0, 0) || z.stick(1, 1) || z.stick(1, 2));
        twins.refuse("at 3", z -> z.stick(2, 3) || z.stick(4, 3));
        document.sentence("(It may be stuck already.)");
        SwitchLevels again = Twins.busy();
        for (int state = 0; state < 3; state++) {
            check.due("again", again.stick(4, state) + " " + again.state(4), "true " + state);
        }
        check.due("free after all", again.free(4) + " " + again.free(4), "true false");
    }

    private void free() {
        document.heading("## Promise 9: free `boolean free(int n)`:");
        document.sentence("Node n is stuck no more; it keeps its state.");
        for (int state = 0; state < 3; state++) {
            SwitchLevels x = Check.loaded("i v;d v v a;s b 1");
            Check.setAll(x, "111");
            x.stick(1, state);
            x.stick(2, state);
            check.due("free", x.free(1) + " " + x.free(2), "true true");
            check.due("states", Check.states(x), "1" + state + state);
            check.due("not led", x.level(1, 0) + " " + x.level(2, 0) + " " + Check.groups(x), "5 1 -1 1 2");
            x.settle();
            check.due("one is led by v, the other holds", Check.states(x), "11" + state);
            check.due("set", x.set(1, 0), true);
        }
        document.sentence("False, changing nothing, if there is no such node or it is not stuck.");
        for (int n : FAR) {
            twins.refuse("free " + n, z -> z.free(n));
        }
        twins.refuse("behind the last", z -> z.free(6));
        twins.refuse("those that are not stuck", z -> z.free(0) || z.free(1) || z.free(2) || z.free(3) || z.free(5));
    }

    private void jam() {
        document.heading("## Promise 10: jam `boolean jam(int t, int how)`:");
        document.sentence("Transistor t is jammed off (how 0), on (1) or unsure (2), or no more (3).");
        SwitchLevels x = Check.loaded("i v;n v a b;p v a b;d v a b");
        int[][] free = {{0, 1, 1}, {1, 0, 1}, {2, 2, 1}};
        for (int gate = 0; gate < 3; gate++) {
            x.set(0, gate);
            for (int t = 0; t < 3; t++) {
                for (int how = 0; how < 4; how++) {
                    check.due("jam " + t + " " + how, x.jam(t, how), true);
                    check.due("conducts " + t, x.conducts(t), how == 3 ? free[gate][t] : how);
                    check.due("another is as it was", x.conducts((t + 1) % 3), free[gate][(t + 1) % 3]);
                }
            }
        }
        document.sentence("False, changing nothing, if there is no such transistor or how is not 0 .. 3.");
        for (int n : FAR) {
            twins.refuse("jam " + n, z -> z.jam(n, 0) || z.jam(n, 3));
            twins.refuse("jam to " + n, z -> z.jam(0, n) || z.jam(5, n));
        }
        twins.refuse("behind the last", z -> z.jam(7, 1));
        twins.refuse("to 4", z -> z.jam(0, 4) || z.jam(5, 4));
        check.due("the last", Twins.busy().jam(6, 0), true);
    }

    private void limit() {
        document.heading("## Promise 11: limit `boolean limit(int n)`:");
        document.sentence("LIMIT becomes n; false, changing nothing, if n is not 1 .. 50.");
        for (int n = -1; n <= 52; n++) {
            SwitchLevels x = ring();
            boolean isOne = n >= 1 && n <= 50;
            check.due("limit " + n, x.limit(n), isOne);
            check.due("settled with " + n, x.settle(), (isOne ? n : 20) + 4);
        }
        for (int n : FAR) {
            if (n < 1 || n > 50) {
                twins.refuse("limit " + n, z -> z.limit(n));
            }
        }
        twins.refuse("limit 0", z -> z.limit(0));
        twins.refuse("limit 51", z -> z.limit(51));
    }

    private void step() {
        document.heading("## Promise 12: step `int step()`:");
        document.sentence("Makes a step: how many states change.");
        SwitchLevels x = Check.loaded("i v;d v v a;d v v b;d v v c;n c v d");
        Check.setAll(x, "11000");
        int[] due = {2, 1, 0, 0};
        String[] states = {"11110", "11111", "11111", "11111"};
        for (int i = 0; i < due.length; i++) {
            check.due("step " + (i + 1), x.step(), due[i]);
            check.due("states then", Check.states(x), states[i]);
        }
        x.set(0, 2);
        check.due("into doubt", x.step(), 4);
        check.due("without a node", new SwitchLevels().step(), 0);
    }

    private void settle() {
        document.heading("## Promise 13: settle `int settle()`:");
        document.sentence("Settles: how many steps were made.");
        SwitchLevels x = Check.fuse(6);
        check.due("6 changes and none", x.settle(), 7);
        check.due("all is known", Check.states(x), "11111111");
        check.due("once more", x.settle(), 1);
        Check.setAll(x, "11000000");
        x.limit(3);
        check.due("3 changes, 3 into doubt, and none", x.settle(), 7);
        check.due("three in doubt", Check.states(x), "11111222");
        check.due("once more, which makes all known", x.settle(), 4);
        check.due("STEPS", x.steps(), 7 + 1 + 7 + 4);
        check.due("without a node", new SwitchLevels().settle(), 1);
    }

    private void steps() {
        document.heading("## Promise 14: steps `int steps()`:");
        document.sentence("STEPS.");
        SwitchLevels x = new SwitchLevels();
        check.due("of a new object", x.steps(), 0);
        x.step();
        x.step();
        check.due("two without a node", x.steps(), 2);
        Check.loadText(x, "i v\nd v v a");
        check.due("loaded", x.steps(), 0);
        x.set(0, 1);
        x.step();
        int settled = x.settle();
        check.due("a step and a settling", x.steps(), 1 + settled);
    }

    private void state() {
        document.heading("## Promise 15: state `int state(int n)`:");
        document.sentence("The state of a node; NONE if there is none.");
        SwitchLevels x = Check.loaded("i v;n v a b;d v v c");
        check.due("loaded", Check.states(x), "2222");
        Check.setAll(x, "0120");
        check.due("set", x.state(0) + " " + x.state(1) + " " + x.state(2) + " " + x.state(3), "0 1 2 0");
        x.stick(2, 1);
        check.due("stuck", x.state(2), 1);
        x.set(0, 1);
        x.step();
        check.due("stepped", Check.states(x), "1111");
        check.due("behind the last", x.state(4), -1);
        for (int n : FAR) {
            check.due("state of " + n, x.state(n), -1);
        }
    }

    private void level() {
        document.heading("## Promise 16: level `int level(int n, int which)`:");
        document.sentence("A level of a node, from the states that there are: 0 the firm, 1 the high, 2 the low one; NONE if "
            + "there is no such node or which is not 0 .. 2.");
        SwitchLevels x = Check.loaded("i v;i g;d v v a 1;n g v b 3;s b 3;s c 1");
        Check.setAll(x, "12001");
        check.due("v", Check.levels(x, 0), "7 7 0");
        check.due("g", Check.levels(x, 1), "7 7 7");
        check.due("a", Check.levels(x, 2), "4 4 0");
        check.due("b", Check.levels(x, 3), "3 6 3");
        check.due("c", Check.levels(x, 4), "1 1 0");
        x.set(0, 0);
        check.due("a then", Check.levels(x, 2), "4 0 4");
        x.stick(3, 1);
        check.due("b stuck", Check.levels(x, 3), "7 7 0");
        for (int which = -1; which <= 3; which++) {
            boolean isOne = which >= 0 && which <= 2;
            check.due("which " + which, x.level(1, which), isOne ? 7 : -1);
            check.due("behind the last", x.level(5, which), -1);
            for (int n : FAR) {
                check.due("level of " + n, x.level(n, which), -1);
                check.due("level which is " + n, x.level(0, n), -1);
            }
        }
    }

    private void group() {
        document.heading("## Promise 17: group `int group(int n)`:");
        document.sentence("The least number of a node of the group of node n; NONE if there is no such node or it is led.");
        SwitchLevels x = Check.loaded("s a 1;i v;n v d c;n v c e;s f 1;n v f a;n v v f");
        check.due("a v d c e f", Check.groups(x), "0 -1 2 2 2 0");
        x.stick(2, 0);
        check.due("d stuck", Check.groups(x), "0 -1 -1 3 3 0");
        x.stick(3, 0);
        check.due("c too", Check.groups(x), "0 -1 -1 -1 4 0");
        x.free(2);
        check.due("d free", Check.groups(x), "0 -1 2 -1 4 0");
        check.due("behind the last", x.group(6), -1);
        for (int n : FAR) {
            check.due("group of " + n, x.group(n), -1);
        }
    }

    private void conducts() {
        document.heading("## Promise 18: conducts `int conducts(int t)`:");
        document.sentence("Whether transistor t is off (0), on (1) or unsure (2); NONE if there is none.");
        SwitchLevels x = Check.loaded("i v;n v a b;p v a b;d v a b");
        String[] due = {"0 1 1", "1 0 1", "2 2 1"};
        for (int gate = 0; gate < 3; gate++) {
            x.set(0, gate);
            check.due("gates of " + gate, x.conducts(0) + " " + x.conducts(1) + " " + x.conducts(2), due[gate]);
        }
        x.jam(1, 0);
        x.jam(2, 2);
        check.due("jammed", x.conducts(0) + " " + x.conducts(1) + " " + x.conducts(2), "2 0 2");
        check.due("behind the last", x.conducts(3), -1);
        for (int t : FAR) {
            check.due("conducts " + t, x.conducts(t), -1);
        }
    }

    private void change() {
        document.heading("## Promise 19: change `int change(int k)`:");
        document.sentence("Of the changes, the k-th from the latest one (0 .. 31): 128 times STEPS as it was after the step, 4 "
            + "times the node, and its new state. NONE if there is none.");
        SwitchLevels x = Check.loaded("i v;d v v a;d v v b;d v v c");
        for (int step = 1; step <= 15; step++) {
            x.set(0, step % 3);
            x.step();
            for (int k = 0; k < 32 && (step < 4 || step > 9); k++) {
                int at = step - k / 3;
                check.due("change " + k + " after " + step, x.change(k), at < 1 ? -1 : 128 * at + 4 * (3 - k % 3) + at % 3);
            }
        }
        check.due("the 33rd", x.change(32), -1);
        for (int k : FAR) {
            if (k < 0 || k > 31) {
                check.due("change " + k, x.change(k), -1);
            }
        }
        check.due("of a new object", new SwitchLevels().change(0), -1);
    }
}
