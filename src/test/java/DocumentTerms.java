/** The terms of a network, sentence after sentence: nodes, transistors, levels, steps, settling, changes. */
final class DocumentTerms {
    private static final String[] KINDS = {"n", "p", "d"};

    private final Check check;
    private final Document document;

    DocumentTerms(Check check, Document document) {
        this.check = check;
        this.document = document;
    }

    void walk() {
        states();
        nodesAndTransistors();
        onOffUnsure();
        joins();
        led();
        groups();
        evaluating();
        firmLevels();
        highLevelOfLed();
        highLevels();
        lowLevels();
        leastNumbers();
        comesTo();
        step();
        settling();
        changes();
    }

    private void states() {
        document.sentence("STATES are 0, 1 and 2 (unknown).");
        SwitchLevels x = Check.loaded("i v;d v v a");
        for (int state = -2; state <= 4; state++) {
            boolean isOne = state >= 0 && state <= 2;
            check.due("set " + state, x.set(0, state), isOne);
            check.due("stick " + state, x.stick(1, state), isOne);
        }
        x.set(0, 2);
        x.free(1);
        x.set(1, 1);
        check.due("2 stands for either", Check.levels(x, 0) + ", " + Check.levels(x, 1), "7 7 7, 5 5 5");
    }

    private void nodesAndTransistors() {
        document.sentence("There are up to 24 NODES, 0, 1, .. in the order of their making, each an INPUT or with a SIZE "
            + "(1 .. 3), and up to 30 TRANSISTORS, 0, 1, .. in the order of the text, each with a kind n, p or d, a gate, a "
            + "source and a drain (nodes, perhaps the same), and a STRENGTH (1 .. 3).");
        SwitchLevels most = Check.loaded("i x;p z y z;n y x w;" + "d a b c;".repeat(25) + "n g f e;p k j i;i l;"
            + "n m n o;s p 1;s q 3;i r;s s 2;i t;i u;i v");
        check.due("nodes", most.nodes(), 24);
        String inOrder = "xzywabcgfekjilmnopqrstuv";
        for (int n = 0; n < 24; n++) {
            check.due("node " + n, most.node(inOrder.charAt(n)), n);
        }
        check.due("an input", most.level(0, 0) + " " + most.stick(0, 0), "7 false");
        check.due("sizes", most.level(17, 0) + " " + most.level(20, 0) + " " + most.level(18, 0), "1 2 3");
        check.due("not more nodes", Check.loadText(new SwitchLevels(), manyInputs(25)), -25);
        check.due("24 of them", Check.loadText(new SwitchLevels(), manyInputs(24)), 0);
        transistorsInOrder(most);
        strengths();
    }

    private static String manyInputs(int count) {
        StringBuilder text = new StringBuilder();
        for (int i = 0; i < count; i++) {
            text.append(i == 0 ? "i " : "\ni ").append((char) ('a' + i));
        }
        return text.toString();
    }

    private void transistorsInOrder(SwitchLevels most) {
        most.set(most.node('z'), 1);
        most.set(most.node('y'), 1);
        most.set(most.node('g'), 0);
        most.set(most.node('k'), 0);
        most.set(most.node('m'), 2);
        int[] due = {0, 1, 1, 1, 0, 1, 2, -1};
        int[] places = {0, 1, 2, 26, 27, 28, 29, 30};
        for (int i = 0; i < due.length; i++) {
            check.due("transistor " + places[i], most.conducts(places[i]), due[i]);
        }
        check.due("30 of them", Check.loadText(new SwitchLevels(), "d a b c\n".repeat(30)), 30);
        check.due("not more", Check.loadText(new SwitchLevels(), "d a b c\n".repeat(31)), -31);
        check.due("all three nodes the same", Check.loadText(new SwitchLevels(), "n a a a"), 1);
    }

    private void strengths() {
        for (int strength = 0; strength <= 4; strength++) {
            SwitchLevels x = new SwitchLevels();
            boolean isOne = strength >= 1 && strength <= 3;
            check.due("strength " + strength, Check.loadText(x, "i v\nd v v a " + strength), isOne ? 1 : -2);
            check.due("its level " + strength, x.level(1, 0), isOne ? strength + 3 : -1);
            check.due("size " + strength, Check.loadText(x, "s a " + strength), isOne ? 0 : -1);
        }
    }

    private void onOffUnsure() {
        document.sentence("A transistor is ON, OFF or UNSURE: a jammed one as it is jammed; otherwise of kind n on, off, unsure "
            + "as its gate has the state 1, 0, 2; of kind p on, off, unsure as its gate has 0, 1, 2; of kind d on.");
        // By the gate's state, for n, p and d.
        int[][] due = {{0, 1, 2}, {1, 0, 2}, {1, 1, 1}};
        for (int kind = 0; kind < 3; kind++) {
            SwitchLevels x = Check.loaded(KINDS[kind] + " g a b");
            for (int gate = 0; gate < 3; gate++) {
                x.set(0, gate);
                for (int how = 0; how < 3; how++) {
                    x.jam(0, how);
                    check.due(KINDS[kind] + " jammed " + how + " at " + gate, x.conducts(0), how);
                }
                x.jam(0, 3);
                check.due(KINDS[kind] + " at " + gate, x.conducts(0), due[kind][gate]);
            }
        }
    }

    private void joins() {
        document.sentence("It JOINS its source and its drain.");
        for (String kind : KINDS) {
            SwitchLevels x = Check.loaded("i s;s d 1;s g 3;" + kind + " g s d 1;s e 1;" + kind + " g e s 1");
            x.set(0, 1);
            x.set(2, kind.equals("p") ? 0 : 1);
            check.due("the drain of " + kind, x.level(1, 0), 4);
            check.due("the source of " + kind, x.level(3, 0), 4);
            check.due("its gate is not joined", x.level(2, 0) + " " + x.group(2), "3 2");
        }
    }

    private void led() {
        document.sentence("A node is LED if it is an input or is STUCK.");
        SwitchLevels x = Check.loaded("i v;n v a b");
        x.stick(1, 0);
        check.due("groups", Check.groups(x), "-1 -1 2");
        check.due("firm", x.level(0, 0) + " " + x.level(1, 0) + " " + x.level(2, 0), "7 7 2");
        x.free(1);
        check.due("led no more", Check.groups(x) + ", " + x.level(1, 0), "-1 1 1, 2");
    }

    private void groups() {
        document.sentence("The GROUPS are the classes of nodes that are not led, which are joined, directly or by way of others "
            + "that are not led, by any transistors (on or not).");
        SwitchLevels x = Check.loaded("i v;s e 1;s d 1;s c 1;s b 1;s a 1;n v a b;n v b c;p v c v;d v v d;p v e d;n f g h");
        check.due("all of them unsure or on", Check.groups(x), "-1 1 1 3 3 3 6 7 7");
        for (int state = 0; state < 2; state++) {
            x.set(0, state);
            check.due("with v at " + state, Check.groups(x), "-1 1 1 3 3 3 6 7 7");
        }
        x.jam(0, 0);
        x.jam(1, 0);
        check.due("jammed off", Check.groups(x), "-1 1 1 3 3 3 6 7 7");
        x.stick(4, 1);
        check.due("b, by way of which a and c were joined, stuck", Check.groups(x), "-1 1 1 3 -1 5 6 7 7");
        SwitchLevels way = longWay("p", false);
        for (int n = 0; n < 24; n++) {
            check.due("by way of up to 22 others, " + n, way.group(n), 0);
        }
    }

    /** A way from a to b, .. to x, told from its far end, so that little of it is known when a part of it is read. */
    private static SwitchLevels longWay(String kind, boolean turned) {
        StringBuilder lines = new StringBuilder();
        for (char c = 'w'; c >= 'a'; c--) {
            char next = (char) (c + 1);
            lines.append(kind).append(" a ").append(turned ? next : c).append(' ').append(turned ? c : next).append(" 3;");
        }
        return Check.loaded(lines.toString());
    }

    private void evaluating() {
        document.sentence("EVALUATING, from the states that the nodes have.");
        SwitchLevels x = Check.loaded("i v;i g;n g v a");
        Check.setAll(x, "100");
        check.due("the gate has 0", Check.levels(x, 2), "2 0 2");
        x.set(1, 1);
        check.due("the gate has 1, and no step was made", Check.levels(x, 2), "5 5 0");
        document.sentence("Levels are 0 .. 7.");
        check.due("7 and 0", Check.levels(x, 0), "7 7 0");
        check.due("no way has more than 6", Check.loaded("i v;d v v a 3").level(1, 0), 6);
    }

    private void firmLevels() {
        document.sentence("The FIRM level of a led node is 7; that of another node the greatest of its size and, for each "
            + "transistor that is on and joins it to a node m, of the lesser of the transistor's strength + 3 and the firm level "
            + "of m.");
        for (int size = 1; size <= 3; size++) {
            SwitchLevels x = Check.loaded("i v;s a " + size + ";n g v a 1;n h a v 2;n k a b 3;s b 1");
            x.stick(x.node('k'), 1);
            int[] byHand = {0, 0, 2, 2, 1, 0, 0, 1, 1, 1};
            int[] due = {size, size, 4, 5, 5};
            for (int i = 0; i < due.length; i++) {
                x.set(x.node('g'), byHand[2 * i]);
                x.set(x.node('h'), byHand[2 * i + 1]);
                check.due("size " + size + ", a, case " + i, x.level(1, 0), due[i]);
                check.due("size " + size + ", b, case " + i, x.level(x.node('b'), 0), due[i]);
            }
            check.due("an input", x.level(0, 0), 7);
            check.due("a stuck one", x.level(x.node('k'), 0), 7);
        }
        for (int turned = 0; turned < 2; turned++) {
            SwitchLevels way = longWay("d", turned == 1);
            way.stick(0, 2);
            check.due("all of a long way", Check.levels(way, way.node('b')), "6 6 6");
            check.due("its far end", Check.levels(way, way.node('x')), "6 6 6");
        }
    }

    private void highLevelOfLed() {
        document.sentence("The HIGH level of a led node is 7 if its state is not 0, else 0.");
        int[] due = {0, 7, 7};
        SwitchLevels x = Check.loaded("i v;i w;d v v w;d v w a");
        x.set(1, 1);
        for (int state = 0; state < 3; state++) {
            x.set(0, state);
            x.stick(2, state);
            check.due("an input", x.level(0, 1), due[state]);
            check.due("a stuck one", x.level(2, 1), due[state]);
        }
    }

    private void highLevels() {
        document.sentence("For another node let h be the greatest of its size, if its state is not 0, and, for each transistor "
            + "that is not off and joins it to a node m, of the lesser of the transistor's strength + 3 and the high level of m "
            + "(0 if there is nothing); its high level is h if that is not less than its firm level, else 0.");
        sideLevels(1, 0, "high");
    }

    private void lowLevels() {
        document.sentence("The LOW levels are told likewise, with \"not 1\" for \"not 0\".");
        SwitchLevels led = Check.loaded("i v;s a 1");
        int[] due = {7, 0, 7};
        for (int state = 0; state < 3; state++) {
            led.set(0, state);
            led.stick(1, state);
            check.due("an input", led.level(0, 2), due[state]);
            check.due("a stuck one", led.level(1, 2), due[state]);
        }
        sideLevels(2, 1, "low");
    }

    /** Both sides are told alike: which is the level's number, against the state that does not count for it. */
    private void sideLevels(int which, int against, String side) {
        int counts = 1 - against;
        for (int size = 1; size <= 3; size++) {
            SwitchLevels alone = Check.loaded("s a " + size);
            int[] states = {against, counts, 2};
            for (int state : states) {
                alone.set(0, state);
                check.due(side + ", alone with " + state, alone.level(0, which), state == against ? 0 : size);
            }
        }
        for (int strength = 1; strength <= 3; strength++) {
            SwitchLevels x = Check.loaded("i v;s b 1;d v v a " + strength + ";d v b a 3;d v c a 1;i c");
            x.set(0, counts);
            x.set(1, against);
            x.set(2, against);
            x.set(3, against);
            x.jam(2, 0);
            sideByOneWay(x, which, strength, side);
            x.jam(2, 1);
            x.jam(0, 2);
            int reached = strength + 3;
            check.due(side + ", not less than firm 4", x.level(2, which), reached);
            x.jam(0, 1);
            check.due(side + ", not less than firm " + reached, x.level(2, which), reached);
            sideLessThanFirm(which, against, strength, side);
        }
    }

    private void sideByOneWay(SwitchLevels x, int which, int strength, String side) {
        int[] jams = {0, 1, 2};
        for (int how : jams) {
            x.jam(0, how);
            int due = how == 0 ? 0 : strength + 3;
            check.due(side + ", jammed " + how, x.level(2, which), due);
            check.due(side + " behind it", x.level(1, which), due);
        }
    }

    private void sideLessThanFirm(int which, int against, int strength, String side) {
        SwitchLevels x = Check.loaded("i v;i w;d v v a 2;d v w a " + strength + ";d v a b 3;s b 1");
        x.set(0, against);
        x.set(1, 1 - against);
        x.set(2, 1 - against);
        x.set(3, against);
        x.jam(1, 2);
        int due = strength < 2 ? 0 : strength + 3;
        check.due(side + " of " + strength + " against a firm 2", x.level(2, which), due);
        check.due(side + " passed on", x.level(3, which), due);
        x.jam(2, 2);
        check.due(side + " passed on unsure", x.level(3, which), due);
        SwitchLevels greater = Check.loaded("i v;i w;d v v a 1;d v w a " + strength);
        greater.set(0, 1 - against);
        greater.set(1, against);
        greater.jam(1, 2);
        check.due(side + " of a firm 1, if the other side has " + strength, greater.level(2, which), 4);
    }

    private void leastNumbers() {
        document.sentence("(Of all numbers that fit together so, the least are meant, in all three.)");
        SwitchLevels x = Check.loaded("s a 1;s b 1;s c 1;d a a b 3;d a b c 3;d a c a 3;d a a a 3");
        String[] due = {"1 0 1", "1 1 0"};
        for (int state = 0; state < 2; state++) {
            Check.setAll(x, state == 0 ? "000" : "111");
            for (int n = 0; n < 3; n++) {
                check.due("a ring of " + state + ", " + n, Check.levels(x, n), due[state]);
            }
        }
    }

    private void comesTo() {
        document.sentence("A node that is not led COMES TO 1 if its low level is 0, to 0 if its high level is 0, else to 2.");
        for (int before = 0; before < 3; before++) {
            for (int lead = 0; lead < 3; lead++) {
                for (int how = 0; how < 3; how++) {
                    SwitchLevels x = Check.loaded("i v;d v v a");
                    x.set(0, lead);
                    x.set(1, before);
                    x.jam(0, how);
                    int high = x.level(1, 1);
                    int low = x.level(1, 2);
                    x.step();
                    String what = before + " led by " + lead + " jammed " + how;
                    check.due(what, x.state(1), low == 0 ? 1 : high == 0 ? 0 : 2);
                    int byHand = how == 0 ? before : how == 1 ? lead : before == lead ? before : 2;
                    check.due(what + ", by hand", x.state(1), byHand);
                }
            }
        }
    }

    private void step() {
        document.sentence("A STEP: every node that is not led gets the state that it comes to, all at once; the step COUNTS (the "
            + "STEPS grow by 1) also if no state changes.");
        SwitchLevels x = Check.loaded("i v;i w;n v v w;n a v b;n b v c;n v v a;n v v d");
        // The nodes are v, w, a, b, c, d; d stays stuck, w an input; b waits for a, and c for b.
        Check.setAll(x, "100000");
        x.stick(5, 0);
        String[] due = {"101000", "101100", "101110", "101110", "101110"};
        for (int i = 0; i < due.length; i++) {
            check.due("step " + (i + 1) + " changes", x.step(), i < 3 ? 1 : 0);
            check.due("states after it", Check.states(x), due[i]);
            check.due("STEPS after it", x.steps(), i + 1);
        }
        SwitchLevels crossed = Check.loaded("i v;i g;p a v b;n a g b;p b v a;n b g a");
        Check.setAll(crossed, "1000");
        crossed.step();
        check.due("two that see each other's old state", Check.states(crossed), "1011");
        SwitchLevels first = Check.loaded("s a 1;i v;d v v a");
        Check.setAll(first, "01");
        check.due("the first node too", first.step() + " " + Check.states(first), "1 11");
    }

    private void settling() {
        document.sentence("SETTLING: steps are made until one of them changes no state, but at most LIMIT (20 at first) of them; "
            + "if the last of these still changed one, further steps are made in which every node that would change gets the "
            + "state 2 instead, until one of them changes no state.");
        int[] stages = {0, 1, 5, 19, 20, 21, 22};
        for (int count : stages) {
            SwitchLevels x = Check.fuse(count);
            check.due(count + " changes", x.settle(), count + 1);
            int known = Math.min(count, 20);
            String due = count == 0 ? "1" : "11" + "1".repeat(known) + "2".repeat(count - known);
            check.due("states after " + count, Check.states(x), due);
            check.due("STEPS after " + count, x.steps(), count + 1);
        }
        for (int limit = 1; limit <= 6; limit++) {
            SwitchLevels x = Check.fuse(5);
            x.limit(limit);
            check.due("5 changes with LIMIT " + limit, x.settle(), 6);
            int known = Math.min(limit, 5);
            check.due("states with LIMIT " + limit, Check.states(x), "11" + "1".repeat(known) + "2".repeat(5 - known));
        }
        settlingWithDoubt();
    }

    private void settlingWithDoubt() {
        SwitchLevels crossed = Check.loaded("i v;i g;p a v b;n a g b;p b v a;n b g a");
        Check.setAll(crossed, "1000");
        check.due("two that cross: 20, a doubtful one, and one", crossed.settle(), 22);
        check.due("they are in doubt", Check.states(crossed), "1022");
        SwitchLevels held = Check.fuse(4);
        held.limit(2);
        held.set(4, 2);
        held.set(5, 2);
        check.due("2 within LIMIT, and one that leaves a 2 as it is", held.settle(), 3);
        check.due("states then", Check.states(held), "111122");
    }

    private void changes() {
        document.sentence("A CHANGE is noted for every node whose state changes in a step (not by a call that sets it), by the "
            + "numbers of the nodes.");
        SwitchLevels x = Check.loaded("i v;d v v a;d v v b;d v v c");
        Check.setAll(x, "1010");
        x.stick(2, 0);
        x.free(2);
        x.stick(2, 1);
        x.free(2);
        check.due("none of set, stick and free", Check.changes(x), "");
        x.step();
        check.due("those that change", Check.changes(x), "1:3=1 1:1=1");
        x.step();
        x.set(0, 0);
        x.settle();
        check.due("in settling too", Check.changes(x), "3:3=0 3:2=0 3:1=0 1:3=1 1:1=1");
        SwitchLevels fuse = Check.fuse(3);
        fuse.limit(1);
        fuse.settle();
        check.due("in doubt too", Check.changes(fuse), "3:4=2 2:3=2 1:2=1");
    }
}
