/** Promises 16 to 18: each sentence on level, group and conducts, and on evaluating, that names an edge. */
public final class LevelEdgesTest {
    private static final int[] WRONG = {-1, -2, 30, 31, 256, 257, 65536, 1 << 30, Integer.MAX_VALUE, Integer.MIN_VALUE};

    private final Check check;

    private LevelEdgesTest(Check check) {
        this.check = check;
    }

    public static void main(String[] args) {
        Check check = new Check();
        LevelEdgesTest test = new LevelEdgesTest(check);
        test.levelOfNoNode();
        test.noSuchLevel();
        test.levelsOfTheStatesThatThereAre();
        test.firmLevelOfLed();
        test.firmLevelOfSize();
        test.firmLevelByStrength();
        test.firmLevelByNeighbour();
        test.firmLevelByOnAlone();
        test.sidesOfLed();
        test.sidesOfSize();
        test.sidesByTransistorsThatAreNotOff();
        test.notLessThanItsFirmLevel();
        test.chargesAgainstEachOther();
        test.chargesWithAnUnsureOne();
        test.nothingPassesBelowTheFirmLevel();
        test.leastNumbers();
        test.comesTo();
        test.groupOfLed();
        test.groupOfNoNode();
        test.leastNumberOfAGroup();
        test.joinedByAnyTransistors();
        test.joinedByWayOfOthersNotLed();
        test.conductsByKind();
        test.conductsAsJammed();
        test.conductsOfNone();
        test.askingChangesNothing();
        check.end();
    }

    /** An input v, and a, b and c, which are one group. */
    private static SwitchLevels small() {
        return Check.loaded("i v;n v a b;d v a c");
    }

    private void levelOfNoNode() {
        check.sentence("Promise 16", "NONE if there is no such node");
        SwitchLevels x = small();
        for (int which = 0; which < 3; which++) {
            for (int n : WRONG) {
                check.due("level " + n + " " + which, x.level(n, which), -1);
            }
            check.due("behind the last, " + which, x.level(4, which), -1);
            check.due("the last, " + which, x.level(3, which), 2);
            check.due("the first, " + which, x.level(0, which), 7);
            check.due("of a new object", new SwitchLevels().level(0, which), -1);
        }
        SwitchLevels smaller = small();
        Check.loadText(smaller, "i a");
        check.due("of a network that was", smaller.level(1, 0), -1);
    }

    private void noSuchLevel() {
        check.sentence("Promise 16", "NONE if .. which is not 0 .. 2");
        SwitchLevels x = small();
        x.stick(2, 1);
        for (int which : WRONG) {
            for (int n = -1; n <= 4; n++) {
                check.due("level " + n + " " + which, x.level(n, which), -1);
            }
        }
        for (int n = 0; n < 4; n++) {
            check.due("no 3 of " + n, x.level(n, 3), -1);
            check.due("no -1 of " + n, x.level(n, -1), -1);
            check.due("2 of " + n, x.level(n, 2) == -1, false);
        }
        check.due("0 the firm, 1 the high, 2 the low one", Check.levels(x, 2), "7 7 0");
    }

    private void levelsOfTheStatesThatThereAre() {
        check.sentence("Promise 16", "from the states that there are");
        SwitchLevels x = Check.loaded("i v;i g;n g v a");
        Check.setAll(x, "100");
        check.due("with the gate at 0", Check.levels(x, 2), "2 0 2");
        x.set(1, 1);
        check.due("with the gate at 1, before a step", Check.levels(x, 2), "5 5 0");
        x.set(1, 2);
        check.due("with the gate at 2", Check.levels(x, 2), "2 5 2");
        x.set(2, 1);
        check.due("with another charge", Check.levels(x, 2), "2 5 0");
        x.jam(0, 1);
        check.due("jammed on", Check.levels(x, 2), "5 5 0");
        x.stick(2, 0);
        check.due("stuck", Check.levels(x, 2), "7 0 7");
        x.free(2);
        check.due("free again", Check.levels(x, 2), "5 5 0");
        check.due("asking makes no step", x.steps() + " " + Check.states(x), "0 120");
    }

    private void firmLevelOfLed() {
        check.sentence("Terms", "The FIRM level of a led node is 7");
        for (int state = 0; state < 3; state++) {
            for (int size = 1; size <= 3; size++) {
                SwitchLevels x = Check.loaded("i v;s v " + size + ";s a " + size + ";d v v a 1");
                x.set(0, state);
                x.stick(1, state);
                check.due("an input of " + state, x.level(0, 0), 7);
                check.due("a stuck one of " + state, x.level(1, 0), 7);
                x.free(1);
                check.due("free again", x.level(1, 0), 4);
            }
        }
    }

    private void firmLevelOfSize() {
        check.sentence("Terms", "that of another node the greatest of its size and ..");
        for (int size = 1; size <= 3; size++) {
            for (int state = 0; state < 3; state++) {
                SwitchLevels x = Check.loaded("s a " + size);
                x.set(0, state);
                check.due("size " + size + " with " + state, x.level(0, 0), size);
            }
            for (int other = 1; other <= 3; other++) {
                SwitchLevels x = Check.loaded("s a " + size + ";s b " + other + ";d a a b 1");
                int most = Math.max(size, other);
                check.due(size + " with " + other, x.level(0, 0) + " " + x.level(1, 0), most + " " + most);
            }
        }
    }

    private void firmLevelByStrength() {
        check.sentence("Terms", "of the lesser of the transistor's strength + 3 and the firm level of m");
        for (int strength = 1; strength <= 3; strength++) {
            SwitchLevels source = Check.loaded("i v;s a 3;d v v a " + strength);
            SwitchLevels drain = Check.loaded("i v;s a 3;d v a v " + strength);
            check.due("from the source, " + strength, source.level(1, 0), strength + 3);
            check.due("from the drain, " + strength, drain.level(1, 0), strength + 3);
            SwitchLevels two = Check.loaded("i v;d v v a " + strength + ";d v v a 1;d v a v 2");
            check.due("the greatest of several, " + strength, two.level(1, 0), Math.max(strength, 2) + 3);
        }
    }

    private void firmLevelByNeighbour() {
        check.sentence("Terms", "of the lesser of the transistor's strength + 3 and the firm level of m");
        for (int first = 1; first <= 3; first++) {
            for (int second = 1; second <= 3; second++) {
                for (int third = 1; third <= 3; third++) {
                    SwitchLevels x = Check.loaded("i v;d v b c " + third + ";d v a b " + second + ";d v v a " + first);
                    int b = Math.min(first, second) + 3;
                    int c = Math.min(first, Math.min(second, third)) + 3;
                    String what = first + " " + second + " " + third;
                    check.due(what, x.level(3, 0) + " " + x.level(1, 0) + " " + x.level(2, 0), first + 3 + " " + b + " " + c);
                }
            }
        }
    }

    private void firmLevelByOnAlone() {
        check.sentence("Terms", "for each transistor that is on and joins it to a node m");
        String[] kinds = {"n", "p", "d"};
        for (String kind : kinds) {
            SwitchLevels x = Check.loaded("i v;i g;" + kind + " g v a 3");
            for (int gate = 0; gate < 3; gate++) {
                x.set(1, gate);
                check.due(kind + " with a gate of " + gate, x.level(2, 0), x.conducts(0) == 1 ? 6 : 2);
            }
            int[] jammed = {2, 6, 2};
            for (int how = 0; how < 3; how++) {
                x.jam(0, how);
                check.due(kind + " jammed " + how, x.level(2, 0), jammed[how]);
            }
        }
        check.due("a gate is not joined", Check.loaded("i v;d a v v 3").level(1, 0), 2);
    }

    private void sidesOfLed() {
        check.sentence("Terms", "The HIGH level of a led node is 7 if its state is not 0, else 0");
        String[] due = {"0 7", "7 0", "7 7"};
        for (int state = 0; state < 3; state++) {
            SwitchLevels x = Check.loaded("i v;i w;d v v w 3;d v v a 3;d v w a 3");
            x.set(0, state);
            x.set(1, 1);
            x.stick(2, state);
            check.due("an input of " + state, x.level(0, 1) + " " + x.level(0, 2), due[state]);
            check.due("a stuck one of " + state, x.level(2, 1) + " " + x.level(2, 2), due[state]);
        }
    }

    private void sidesOfSize() {
        check.sentence("Terms", "For another node let h be the greatest of its size, if its state is not 0, .. (0 if there is nothing)");
        for (int size = 1; size <= 3; size++) {
            SwitchLevels x = Check.loaded("s a " + size + ";n b a c;s b 1;s c 1");
            x.set(1, 0);
            String[] due = {size + " 0 " + size, size + " " + size + " 0", size + " " + size + " " + size};
            for (int state = 0; state < 3; state++) {
                x.set(0, state);
                check.due("size " + size + " with " + state, Check.levels(x, 0), due[state]);
            }
        }
    }

    private void sidesByTransistorsThatAreNotOff() {
        check.sentence("Terms", "for each transistor that is not off and joins it to a node m");
        for (int strength = 1; strength <= 3; strength++) {
            int way = strength + 3;
            SwitchLevels x = Check.loaded("i v;s a 3;d v v a " + strength);
            Check.setAll(x, "10");
            x.jam(0, 0);
            check.due("off " + strength, Check.levels(x, 1), "3 0 3");
            x.jam(0, 1);
            check.due("on " + strength, Check.levels(x, 1), way + " " + way + " 0");
            x.jam(0, 2);
            check.due("unsure " + strength, Check.levels(x, 1), "3 " + way + " 3");
            Check.setAll(x, "01");
            check.due("unsure, the low one " + strength, Check.levels(x, 1), "3 3 " + way);
            x.jam(0, 1);
            check.due("on, the low one " + strength, Check.levels(x, 1), way + " 0 " + way);
            x.set(0, 2);
            check.due("on, to a 2 " + strength, Check.levels(x, 1), way + " " + way + " " + way);
        }
    }

    /** One way is on and the other unsure: below, at and above the firm level, for both sides. */
    private void notLessThanItsFirmLevel() {
        check.sentence("Terms", "its high level is h if that is not less than its firm level, else 0");
        for (int sure = 1; sure <= 3; sure++) {
            for (int unsure = 1; unsure <= 3; unsure++) {
                SwitchLevels x = Check.loaded("i v;i g;d v v a " + unsure + ";d v g a " + sure);
                x.jam(0, 2);
                int other = unsure >= sure ? unsure + 3 : 0;
                int own = sure + 3;
                Check.setAll(x, "100");
                check.due("high " + unsure + " against " + sure, Check.levels(x, 2), own + " " + other + " " + own);
                check.due("it comes to", stepped(x), unsure >= sure ? 2 : 0);
                Check.setAll(x, "011");
                check.due("low " + unsure + " against " + sure, Check.levels(x, 2), own + " " + own + " " + other);
                check.due("it comes to, then", stepped(x), unsure >= sure ? 2 : 1);
            }
        }
    }

    private static int stepped(SwitchLevels x) {
        x.step();
        return x.state(2);
    }

    private void chargesAgainstEachOther() {
        check.sentence("Terms", "its high level is h if that is not less than its firm level, else 0");
        for (int one = 1; one <= 3; one++) {
            for (int two = 1; two <= 3; two++) {
                SwitchLevels x = Check.loaded("s a " + one + ";s b " + two + ";d a a b 1");
                Check.setAll(x, "10");
                int firm = Math.max(one, two);
                int high = one >= two ? firm : 0;
                int low = two >= one ? firm : 0;
                String due = firm + " " + high + " " + low;
                check.due(one + " to " + two, Check.levels(x, 0) + ", " + Check.levels(x, 1), due + ", " + due);
                x.step();
                check.due("they come to", Check.states(x), one > two ? "11" : one < two ? "00" : "22");
            }
        }
    }

    private void chargesWithAnUnsureOne() {
        check.sentence("Terms", "its high level is h if that is not less than its firm level, else 0");
        for (int one = 1; one <= 3; one++) {
            for (int two = 1; two <= 3; two++) {
                SwitchLevels x = Check.loaded("s a " + one + ";s b " + two + ";d a a b 1");
                x.jam(0, 2);
                Check.setAll(x, "10");
                check.due(one + " by " + two, Check.levels(x, 0), one + " " + one + " " + (two >= one ? two : 0));
                check.due(two + " by " + one, Check.levels(x, 1), two + " " + (one >= two ? one : 0) + " " + two);
                x.step();
                check.due("they come to", Check.states(x), (two >= one ? "2" : "1") + (one >= two ? "2" : "0"));
            }
        }
    }

    private void nothingPassesBelowTheFirmLevel() {
        check.sentence("Terms", "its high level is h if that is not less than its firm level, else 0");
        SwitchLevels x = Check.loaded("i v;i g;d v v a 1;d v g a 2;n g a b 3;s b 1");
        Check.setAll(x, "1000");
        x.jam(2, 2);
        check.due("a", Check.levels(x, 2), "5 0 5");
        check.due("b, behind it, is not reached by v", Check.levels(x, 3), "1 0 5");
        x.set(0, 0);
        x.set(1, 1);
        x.set(3, 1);
        check.due("a, turned round", Check.levels(x, 2), "5 5 0");
        check.due("b, turned round", Check.levels(x, 3), "1 5 0");
        SwitchLevels charge = Check.loaded("s a 1;s b 2;s c 1;d a a b;n d b c;s d 1");
        Check.setAll(charge, "1000");
        charge.jam(1, 2);
        check.due("a charge that is too small", Check.levels(charge, 2), "1 0 2");
    }

    private void leastNumbers() {
        check.sentence("Terms", "(Of all numbers that fit together so, the least are meant, in all three.)");
        SwitchLevels pair = Check.loaded("d a a b 3");
        Check.setAll(pair, "00");
        check.due("two that could hold each other high", Check.levels(pair, 0) + ", " + Check.levels(pair, 1), "2 0 2, 2 0 2");
        Check.setAll(pair, "11");
        check.due("two that could hold each other low", Check.levels(pair, 0) + ", " + Check.levels(pair, 1), "2 2 0, 2 2 0");
        SwitchLevels led = Check.loaded("i g;d g g a 2;d g a b 3;d g b c 3;d g c a 3");
        Check.setAll(led, "0111");
        check.due("a ring behind a led 0", Check.levels(led, 1) + ", " + Check.levels(led, 3), "5 0 5, 5 0 5");
        Check.setAll(led, "1000");
        check.due("a ring behind a led 1", Check.levels(led, 1) + ", " + Check.levels(led, 3), "5 5 0, 5 5 0");
        SwitchLevels unsure = Check.loaded("n c a b 3;n c b d 3;n c d a 3");
        Check.setAll(unsure, "2000");
        check.due("an unsure ring", Check.levels(unsure, 1) + ", " + Check.levels(unsure, 3), "2 0 2, 2 0 2");
        SwitchLevels self = Check.loaded("d a a a 3");
        self.set(0, 0);
        check.due("one joined to itself, 0", Check.levels(self, 0), "2 0 2");
        self.set(0, 1);
        check.due("one joined to itself, 1", Check.levels(self, 0), "2 2 0");
    }

    private void comesTo() {
        check.sentence("Terms", "A node that is not led COMES TO 1 if its low level is 0, to 0 if its high level is 0, else to 2");
        for (int v = 0; v < 3; v++) {
            for (int g = 0; g < 3; g++) {
                SwitchLevels x = Check.loaded("i v;i g;d v v a;d v g a;s b 1");
                x.set(0, v);
                x.set(1, g);
                x.set(2, 1 - v % 2);
                x.set(3, v);
                x.step();
                check.due(v + " and " + g, x.state(2), v == g ? v : 2);
                check.due("a charge of " + v + " alone", x.state(3), v);
            }
        }
    }

    private void groupOfLed() {
        check.sentence("Promise 17", "NONE if .. it is led");
        SwitchLevels x = small();
        check.due("an input", x.group(0), -1);
        check.due("others", x.group(1) + " " + x.group(2) + " " + x.group(3), "1 1 1");
        for (int n = 1; n <= 3; n++) {
            x.stick(n, 2);
            check.due("a stuck one", x.group(n), -1);
            x.free(n);
            check.due("free again", x.group(n), 1);
        }
    }

    private void groupOfNoNode() {
        check.sentence("Promise 17", "NONE if there is no such node");
        SwitchLevels x = small();
        for (int n : WRONG) {
            check.due("group of " + n, x.group(n), -1);
        }
        check.due("behind the last", x.group(4), -1);
        check.due("the last", x.group(3), 1);
        check.due("of a new object", new SwitchLevels().group(0), -1);
        SwitchLevels smaller = small();
        Check.loadText(smaller, "s a 1");
        check.due("of a network that was", smaller.group(0) + " " + smaller.group(1), "0 -1");
    }

    private void leastNumberOfAGroup() {
        check.sentence("Promise 17", "The least number of a node of the group of node n");
        check.due("one alone", Check.groups(Check.loaded("s a 1;s b 1")), "0 1");
        check.due("one joined to itself", Check.groups(Check.loaded("n a b b")), "0 1");
        check.due("0 is a number too", Check.groups(Check.loaded("n a b a")), "0 0");
        StringBuilder down = new StringBuilder();
        StringBuilder up = new StringBuilder();
        for (char c = 'a'; c < 'x'; c++) {
            up.append("n a ").append(c).append(' ').append((char) (c + 1)).append(';');
            down.insert(0, "n a " + (char) (c + 1) + " " + c + ";");
        }
        String all = "s a 1;s b 1;";
        check.due("24 in a row", Check.loaded(up.toString()).group(23), 0);
        check.due("24 in a row, told from the other end", Check.loaded(all + down).group(2), 0);
        SwitchLevels cut = Check.loaded(up.toString());
        cut.stick(11, 1);
        check.due("before a cut", cut.group(10), 0);
        check.due("behind a cut", cut.group(12) + " " + cut.group(23), "12 12");
        cut.stick(0, 1);
        check.due("without the least one", cut.group(10), 1);
    }

    private void joinedByAnyTransistors() {
        check.sentence("Terms", "by any transistors (on or not)");
        String[] kinds = {"n", "p", "d"};
        for (String kind : kinds) {
            SwitchLevels x = Check.loaded("i g;" + kind + " g a b");
            for (int gate = 0; gate < 3; gate++) {
                for (int how = 0; how < 4; how++) {
                    x.set(0, gate);
                    x.jam(0, how);
                    check.due(kind + " with " + gate + ", jammed " + how, Check.groups(x), "-1 1 1");
                }
            }
        }
        check.due("gates join none", Check.groups(Check.loaded("n a b c;n b d d;n c e e")), "0 1 1 3 4");
    }

    private void joinedByWayOfOthersNotLed() {
        check.sentence("Terms", "which are joined, directly or by way of others that are not led");
        check.due("not by way of an input", Check.groups(Check.loaded("i v;n v a v;n v v b")), "-1 1 2");
        SwitchLevels x = Check.loaded("n a a b;n a b c");
        check.due("by way of b", Check.groups(x), "0 0 0");
        x.stick(1, 1);
        check.due("not by way of a stuck one", Check.groups(x), "0 -1 2");
        x.free(1);
        check.due("by way of b again", Check.groups(x), "0 0 0");
        SwitchLevels round = Check.loaded("n a a b;n a b c;n a c d;n a d a");
        round.stick(1, 1);
        check.due("the other way round", Check.groups(round), "0 -1 0 0");
    }

    private void conductsByKind() {
        check.sentence("Terms", "otherwise of kind n on, off, unsure as its gate has the state 1, 0, 2; of kind p .. 0, 1, 2; of kind d on");
        SwitchLevels x = Check.loaded("i g;n g a b;p g a b;d g a b;n a g g;p a g g;d a g g");
        String[] due = {"0 1 1", "1 0 1", "2 2 1"};
        for (int state = 0; state < 3; state++) {
            x.set(0, state);
            check.due("an input of " + state, x.conducts(0) + " " + x.conducts(1) + " " + x.conducts(2), due[state]);
            x.set(1, state);
            check.due("another of " + state, x.conducts(3) + " " + x.conducts(4) + " " + x.conducts(5), due[state]);
            x.stick(1, state);
            check.due("a stuck one of " + state, x.conducts(3) + " " + x.conducts(4) + " " + x.conducts(5), due[state]);
            x.free(1);
        }
    }

    private void conductsAsJammed() {
        check.sentence("Terms", "a jammed one as it is jammed");
        String[] kinds = {"n", "p", "d"};
        for (String kind : kinds) {
            for (int gate = 0; gate < 3; gate++) {
                for (int how = 0; how < 3; how++) {
                    SwitchLevels x = Check.loaded("i g;" + kind + " g a b");
                    x.set(0, gate);
                    x.jam(0, how);
                    check.due(kind + " with " + gate + ", jammed " + how, x.conducts(0), how);
                }
            }
        }
    }

    private void conductsOfNone() {
        check.sentence("Promise 18", "NONE if there is none");
        for (int count = 0; count <= 30; count++) {
            SwitchLevels x = Check.loaded("d a b c;".repeat(count));
            check.due("the last of " + count, x.conducts(count - 1), count == 0 ? -1 : 1);
            check.due("behind the last of " + count, x.conducts(count), -1);
            for (int t : WRONG) {
                check.due("conducts " + t, x.conducts(t), -1);
            }
        }
        SwitchLevels smaller = small();
        Check.loadText(smaller, "i a");
        check.due("of a network that was", smaller.conducts(0), -1);
        check.due("of a new object", new SwitchLevels().conducts(0), -1);
    }

    private void askingChangesNothing() {
        check.sentence("Not promised", "Nothing is promised beyond the answers and state changes described above");
        Twins twins = new Twins(check, Twins::busy);
        twins.refuse("levels", x -> Check.levels(x, 2).isEmpty() || x.level(9, 9) != -1);
        twins.refuse("groups", x -> Check.groups(x).isEmpty() || x.group(-1) != -1);
        twins.refuse("conducts", x -> x.conducts(0) == -1 || x.conducts(7) != -1);
        twins.refuse("changes", x -> Check.changes(x).isEmpty() || x.change(32) != -1);
        twins.refuse("nodes and names", x -> x.nodes() != 6 || x.node('e') != 5 || x.node(-1) != -1);
        twins.refuse("steps and states", x -> x.steps() != 2 || x.state(0) != 1 || x.state(6) != -1);
    }
}
