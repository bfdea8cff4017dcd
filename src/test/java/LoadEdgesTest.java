/** Promises 4 to 6: each sentence on load, nodes and node, and on how much there may be, that names an edge. */
public final class LoadEdgesTest {
    private final Check check;

    private LoadEdgesTest(Check check) {
        this.check = check;
    }

    public static void main(String[] args) {
        Check check = new Check();
        LoadEdgesTest test = new LoadEdgesTest(check);
        test.oneNodeMore();
        test.severalNodesMore();
        test.nodesOfAFullNetwork();
        test.transistors();
        test.transistorsInTheOrderOfTheText();
        test.oneNameMore();
        test.severalNamesMore();
        test.allFull();
        test.fullAtWork();
        test.inThePlaceOfTheOneThatWas();
        test.noTransistorsOfTheOneThatWas();
        test.howManyTransistors();
        test.allStatesAre2();
        test.noNodeIsStuck();
        test.nothingIsJammed();
        test.stepsIs0();
        test.noChangeIsNoted();
        test.badLineNumbers();
        test.badLineChangesNothing();
        test.loadLeavesTheText();
        test.loadLeavesTheLimit();
        test.howManyNodes();
        test.nodeOfAName();
        test.noneIfNotKnown();
        test.noneIfThisIsNoName();
        check.end();
    }

    private static int load(String text) {
        return Check.loadText(new SwitchLevels(), text);
    }

    private static String inputs(int count) {
        StringBuilder text = new StringBuilder();
        for (int i = 0; i < count; i++) {
            text.append("i ").append((char) ('a' + i)).append('\n');
        }
        return text.toString();
    }

    /** As many names as told, all of one node, one a line but for the first line, which has two. */
    private static String names(int count) {
        StringBuilder text = new StringBuilder();
        for (int i = 1; i < count; i++) {
            text.append("= ").append(9 + i).append(" a\n");
        }
        return text.toString();
    }

    private void oneNodeMore() {
        check.sentence("Terms", "and so is one with which there would be more than 24 nodes");
        String[] lines = {"i 0", "s 0 1", "n 0 a a", "p a 0 a 1", "d a a 0", "n 0 0 0", "= 1 0"};
        for (String line : lines) {
            int good = "npd".indexOf(line.charAt(0)) >= 0 ? 1 : 0;
            check.due("a 24th by " + line, load(inputs(23) + line), good);
            check.due("a 25th by " + line, load(inputs(24) + line), -25);
            check.due("a 25th by " + line + " and good lines behind it", load(inputs(24) + line + "\ni a\n"), -25);
        }
        String[] known = {"i x", "s x 1", "n a x b", "= 0 x", "|", ""};
        for (String line : known) {
            check.due("none by " + line, load(inputs(24) + line), line.startsWith("n") ? 1 : 0);
        }
    }

    private void severalNodesMore() {
        check.sentence("Terms", "and so is one with which there would be more than 24 nodes");
        for (int have = 20; have <= 24; have++) {
            check.due("two to " + have, load(inputs(have) + "n 0 a 1"), have + 2 <= 24 ? 1 : -have - 1);
            check.due("three to " + have, load(inputs(have) + "n 0 1 2"), have + 3 <= 24 ? 1 : -have - 1);
        }
        check.due("no line is numbered but as it stands", load("\n|\n" + inputs(24) + "\n\ni 0"), -29);
    }

    private void nodesOfAFullNetwork() {
        check.sentence("Terms", "There are up to 24 NODES, 0, 1, ..");
        SwitchLevels x = new SwitchLevels();
        check.due("24 nodes", Check.loadText(x, inputs(23) + "s x 3"), 0);
        check.due("there are", x.nodes(), 24);
        for (int n = 0; n < 24; n++) {
            check.due("set " + n, x.set(n, n % 2), true);
            check.due("state " + n, x.state(n), n % 2);
            check.due("by its name", x.node('a' + n), n);
        }
        check.due("the last is stuck", x.stick(23, 0), true);
        check.due("and freed", x.free(23), true);
        check.due("its level", Check.levels(x, 23), "3 0 3");
        check.due("its group", x.group(23), 23);
        check.due("there is none behind it", x.set(24, 1), false);
        check.due("with no state", x.state(24), -1);
    }

    private void transistors() {
        check.sentence("Terms", "and so is one with which there would be more than .. 30 transistors");
        String[] lines = {"n a b c\n", "p a b c\n", "d a b c\n"};
        for (String line : lines) {
            check.due("29 of " + line, load(line.repeat(29)), 29);
            check.due("30 of " + line, load(line.repeat(30)), 30);
            check.due("31 of " + line, load(line.repeat(31)), -31);
            check.due("all three kinds, then " + line, load(String.join("", lines).repeat(10) + line), -31);
            check.due("a 30th, " + line, load(lines[0].repeat(14) + lines[1].repeat(15) + line), 30);
        }
        check.due("other lines do not count", load(lines[0].repeat(30) + "i a\ns b 1\n= d c\n|\n\n"), 30);
        check.due("a 31st behind other lines", load("i a\n|\n" + lines[2].repeat(30) + "i b\nn a b c"), -34);
    }

    private void transistorsInTheOrderOfTheText() {
        check.sentence("Terms", "up to 30 TRANSISTORS, 0, 1, .. in the order of the text");
        SwitchLevels x = Check.loaded("i g;" + "n g a b;p g a b;d g a b;".repeat(10));
        x.set(0, 0);
        for (int t = 0; t < 30; t++) {
            check.due("transistor " + t, x.conducts(t), t % 3 == 0 ? 0 : 1);
        }
        x.set(0, 1);
        for (int t = 0; t < 30; t++) {
            check.due("transistor " + t + " with the gate at 1", x.conducts(t), t % 3 == 1 ? 0 : 1);
        }
        check.due("none behind them", x.conducts(30), -1);
    }

    private void oneNameMore() {
        check.sentence("Terms", "and so is one with which there would be more than .. 40 known names");
        String[] lines = {"= b a", "i b", "s b 1", "n b a a", "n a b a", "n a a b", "n b b b"};
        for (String line : lines) {
            int good = line.startsWith("n") ? 1 : 0;
            check.due("a 40th by " + line, load(names(39) + line), good);
            check.due("a 41st by " + line, load(names(40) + line), -40);
        }
        String[] known = {"i a", "s 48 1", "n a 10 48", "n 20 20 20", "|= b a", "  "};
        for (String line : known) {
            check.due("none by " + line, load(names(40) + line), line.startsWith("n") ? 1 : 0);
        }
    }

    private void severalNamesMore() {
        check.sentence("Terms", "and so is one with which there would be more than .. 40 known names");
        for (int have = 36; have <= 40; have++) {
            check.due("two to " + have, load(names(have) + "= b c"), have + 2 <= 40 ? 0 : -have);
            check.due("two by nodes to " + have, load(names(have) + "n b a c"), have + 2 <= 40 ? 1 : -have);
            check.due("three to " + have, load(names(have) + "n b c d"), have + 3 <= 40 ? 1 : -have);
        }
        SwitchLevels x = new SwitchLevels();
        check.due("40 names", Check.loadText(x, names(40)), 0);
        check.due("of one node", x.nodes(), 1);
        check.due("the first", x.node(Check.pack("10")), 0);
        check.due("the last", x.node(Check.pack("48")), 0);
    }

    /** 24 nodes, 30 transistors and 40 names, in one text that is good. */
    private static String full() {
        StringBuilder text = new StringBuilder();
        for (int i = 0; i < 24; i++) {
            text.append("n a a ").append((char) ('a' + i)).append('\n');
        }
        text.append("d a b c\n".repeat(6));
        for (int i = 0; i < 16; i++) {
            text.append("= ").append(i).append(" x\n");
        }
        return text.toString();
    }

    private void allFull() {
        check.sentence("Terms", "more than 24 nodes, 30 transistors or 40 known names");
        SwitchLevels x = new SwitchLevels();
        check.due("as much as there may be", Check.loadText(x, full()), 30);
        check.due("nodes", x.nodes(), 24);
        check.due("the last node", x.node('x'), 23);
        check.due("by its last name", x.node(Check.pack("15")), 23);
        check.due("the last transistor", x.conducts(29), 1);
        check.due("a node more", load(full() + "i y"), -47);
        check.due("a transistor more", load(full() + "d a b c"), -47);
        check.due("a name more", load(full() + "= y x"), -47);
        check.due("nothing more", load(full() + "i a\ns b 1\n|"), 30);
        check.due("as much again", Check.loadText(x, full()), 30);
        check.due("a smaller one after it", Check.loadText(x, "i a"), 0);
        check.due("and as much again", Check.loadText(x, full()), 30);
    }

    /** 24 nodes and 30 transistors, all on: a row from an input to the last node, told from its far end, and more. */
    private void fullAtWork() {
        check.sentence("Terms", "There are up to 24 NODES .. and up to 30 TRANSISTORS");
        StringBuilder lines = new StringBuilder("i a;s b 2;");
        for (char c = 'c'; c < 'y'; c++) {
            lines.append("s ").append(c).append(" 1;");
        }
        for (char c = 'w'; c >= 'a'; c--) {
            lines.append("d a ").append(c).append(' ').append((char) (c + 1)).append(" 3;");
        }
        lines.append("n x x b 1;".repeat(6)).append("d x b x 1");
        SwitchLevels x = Check.loaded(lines.toString());
        check.due("as many as there may be", x.conducts(29) + " " + x.conducts(30), "1 -1");
        for (int state = 0; state < 2; state++) {
            Check.setAll(x, state + String.valueOf(1 - state).repeat(23));
            String way = state == 0 ? "6 0 6" : "6 6 0";
            check.due("levels at the near end", Check.levels(x, 1), way);
            check.due("levels at the far end", Check.levels(x, 23), way);
            check.due("the group of the far end", x.group(23), 1);
            check.due("all follow in one step", x.step(), 23);
            check.due("they do", Check.states(x), String.valueOf(state).repeat(24));
            check.due("settled", x.settle(), 1);
        }
        x.jam(29, 0);
        x.jam(22, 0);
        check.due("parted from the input", Check.levels(x, 23), "2 2 0");
    }

    private void noTransistorsOfTheOneThatWas() {
        check.sentence("Promise 4", "in the place of the one that was");
        SwitchLevels x = new SwitchLevels();
        String more = "i v\nd v v a\nd v v b\nd v a b";
        Check.loadText(x, more);
        Check.loadText(x, more);
        check.due("fewer transistors", Check.loadText(x, "i v\nd v v a\ns b 1"), 1);
        x.set(0, 1);
        check.due("b is not joined to v", Check.levels(x, 2), "1 1 1");
        check.due("nor to a", x.group(2), 2);
        check.due("only a follows", x.step(), 1);
        check.due("b does not", Check.states(x), "112");
    }

    private void inThePlaceOfTheOneThatWas() {
        check.sentence("Promise 4", "in the place of the one that was");
        SwitchLevels x = Check.loaded("i v;i g;n v g a 3;s a 3;= b a");
        check.due("another", Check.loadText(x, "n g v c 1\ns c 1"), 1);
        check.due("its nodes", x.nodes(), 3);
        check.due("names that both have", x.node('g') + " " + x.node('v'), "0 1");
        check.due("names of the old one", x.node('a') + " " + x.node('b'), "-1 -1");
        check.due("its own name", x.node('c'), 2);
        check.due("no inputs of the old one", x.level(0, 0) + " " + x.level(1, 0), "2 2");
        check.due("its sizes", x.level(2, 0), 1);
        check.due("an empty one", Check.loadText(x, ""), 0);
        check.due("without nodes", x.nodes(), 0);
        check.due("without names", x.node('c'), -1);
        check.due("without transistors", x.conducts(0), -1);
        check.due("without states", x.state(0), -1);
    }

    private void howManyTransistors() {
        check.sentence("Promise 4", "how many transistors it has");
        check.due("none", load("i a\ns b 1"), 0);
        check.due("one", load("i a\nn a b c"), 1);
        check.due("two alike", load("n a b c\nn a b c"), 2);
        check.due("three kinds", load("n a b c\np a b c\nd a b c"), 3);
        check.due("30", load("p a b c 3\n".repeat(30)), 30);
        check.due("not those in nothing lines", load("|n a b c\nn a b c"), 1);
    }

    /** A network in which all that loading makes anew has been touched; its text is the one that was loaded. */
    private static SwitchLevels touched() {
        SwitchLevels x = Check.loaded("i v;n v v a;p v v b;d v v c");
        Check.setAll(x, "1000");
        x.step();
        x.step();
        x.stick(1, 0);
        x.stick(3, 1);
        x.jam(0, 0);
        x.jam(1, 1);
        x.jam(2, 2);
        return x;
    }

    private void allStatesAre2() {
        check.sentence("Promise 4", "all states are 2");
        SwitchLevels x = touched();
        check.due("before", Check.states(x), "1001");
        check.due("load", x.load(), 3);
        check.due("after", Check.states(x), "2222");
        Check.setAll(x, "0101");
        x.load();
        check.due("after once more", Check.states(x), "2222");
        Check.setAll(x, "1010");
        x.load();
        check.due("after a third time", Check.states(x), "2222");
        check.due("of a first one", Check.states(Check.loaded("i a;n b c d")), "2222");
    }

    private void noNodeIsStuck() {
        check.sentence("Promise 4", "no node is stuck");
        SwitchLevels x = touched();
        x.load();
        check.due("free the one", x.free(1), false);
        check.due("free the other", x.free(3), false);
        check.due("set the one", x.set(1, 0), true);
        check.due("its level", x.level(3, 0), 5);
        x.stick(1, 0);
        x.load();
        x.load();
        check.due("after further ones", x.free(1), false);
    }

    private void nothingIsJammed() {
        check.sentence("Promise 4", "nothing is jammed");
        for (int state = 0; state < 3; state++) {
            SwitchLevels x = touched();
            for (int times = 0; times < 3; times++) {
                x.load();
                x.set(0, state);
                check.due("with a gate of " + state, x.conducts(0) + " " + x.conducts(1) + " " + x.conducts(2),
                        state == 0 ? "0 1 1" : state == 1 ? "1 0 1" : "2 2 1");
                x.jam(0, 2);
                x.jam(1, 0);
                x.jam(2, 0);
            }
        }
    }

    private void stepsIs0() {
        check.sentence("Promise 4", "STEPS is 0");
        SwitchLevels x = touched();
        check.due("before", x.steps(), 2);
        x.load();
        check.due("after", x.steps(), 0);
        Check.setAll(x, "1000");
        x.step();
        check.due("the next one is the first", x.steps(), 1);
        check.due("in the changes too", x.change(0), 128 + 4 * 3 + 1);
    }

    private void noChangeIsNoted() {
        check.sentence("Promise 4", "and no change is noted");
        SwitchLevels x = touched();
        check.due("before", Check.changes(x), "1:3=1 1:1=1");
        x.load();
        check.due("after", x.change(0) + " " + x.change(1) + " " + x.change(31), "-1 -1 -1");
        Check.setAll(x, "1000");
        x.step();
        check.due("new ones alone", Check.changes(x), "1:3=1 1:1=1");
        check.due("none behind them", x.change(2), -1);
    }

    private void badLineNumbers() {
        check.sentence("Promise 4", "If a line is bad: its number (from 1) times -1");
        check.due("the first", load("?"), -1);
        check.due("the second", load("i a\n?"), -2);
        check.due("the first of several", load("i a\n?\ni b\n?\n="), -2);
        check.due("the first, though another is bad by number", load("?\n" + inputs(24) + "i 0"), -1);
        check.due("nothing lines have numbers", load("\n|\n  \n?"), -4);
        check.due("480", load("\n".repeat(479) + "?"), -480);
        check.due("an empty last line is not bad", load("\n".repeat(479) + "|"), 0);
    }

    private void badLineChangesNothing() {
        check.sentence("Promise 4", "and nothing changes");
        String[] texts = {
            "?", "i z\ni ab\nd z z ab\ns z 3\n= abc z\n?", "i v\ni g\n= b a\n= a b", inputs(24) + "i 0",
            "d a b z\n".repeat(31), names(40) + "i z", "i e\ni b\ni a\nn a e b 4",
        };
        for (String text : texts) {
            Twins twins = new Twins(check, () -> {
                SwitchLevels x = Twins.busy();
                x.wipe();
                Check.writeAll(x, text);
                return x;
            });
            String start = text.substring(0, Math.min(9, text.length())).replace('\n', ';');
            twins.refuse("load of " + start, x -> x.load() >= 0);
            twins.refuse("load twice of " + start, x -> x.load() != x.load());
        }
        SwitchLevels first = new SwitchLevels();
        check.due("with no network before", Check.loadText(first, "i a\n?"), -2);
        check.due("there is none", first.nodes(), 0);
        check.due("no name is known", first.node('a'), -1);
    }

    private void loadLeavesTheText() {
        check.sentence("Promise 4", "Makes the network that the text tells");
        SwitchLevels x = new SwitchLevels();
        x.write(Check.pack("n a b c"));
        check.due("once", x.load(), 1);
        check.due("twice", x.load(), 1);
        x.write(Check.pack("\nn a b c"));
        check.due("with more behind it", x.load(), 2);
        x.write(Check.pack("\n?"));
        check.due("a bad line", x.load(), -3);
        check.due("that stays", x.load(), -3);
        x.wipe();
        check.due("what is written counts when it is loaded", x.nodes(), 3);
    }

    private void loadLeavesTheLimit() {
        check.sentence("Promise 11", "LIMIT becomes n");
        SwitchLevels x = Check.fuse(3);
        x.limit(1);
        check.due("loaded again", x.load(), 3);
        Check.setAll(x, "11000");
        check.due("settled", x.settle(), 4);
        check.due("with the limit that was told", Check.states(x), "11122");
        SwitchLevels bad = Check.fuse(3);
        bad.limit(1);
        bad.write(Check.pack("\n?"));
        check.due("a bad text", bad.load(), -5);
        check.due("settled, then", bad.settle(), 4);
        check.due("with the limit, then", Check.states(bad), "11122");
    }

    private void howManyNodes() {
        check.sentence("Promise 5", "How many nodes there are");
        for (int count = 0; count <= 24; count++) {
            SwitchLevels x = new SwitchLevels();
            Check.loadText(x, inputs(count));
            check.due(count + " inputs", x.nodes(), count);
        }
        check.due("written but not loaded", writtenOnly().nodes(), 0);
        check.due("one by three names", Check.loaded("i a;= b a;= c b").nodes(), 1);
    }

    private static SwitchLevels writtenOnly() {
        SwitchLevels x = new SwitchLevels();
        x.write(Check.pack("i a\ni b"));
        return x;
    }

    private void nodeOfAName() {
        check.sentence("Promise 6", "The node that a name is known for");
        SwitchLevels x = Check.loaded("i 0;i 9;i a;i z;i az;i 09a;i zzzz;i 0000;= y z;= b y");
        String[] names = {"0", "9", "a", "z", "az", "09a", "zzzz", "0000"};
        for (int n = 0; n < names.length; n++) {
            check.due(names[n], x.node(Check.pack(names[n])), n);
        }
        check.due("another name", x.node('y'), 3);
        check.due("another one's", x.node('b'), 3);
        check.due("the first in the lowest byte", Check.loaded("i ab").node(0x6261), 0);
        check.due("not the other way round", Check.loaded("i ab").node(0x6162), -1);
    }

    private void noneIfNotKnown() {
        check.sentence("Promise 6", "NONE if it is not known");
        SwitchLevels x = Check.loaded("i abc;i b");
        String[] unknown = {"a", "ab", "abcd", "bb", "c", "bc", "0"};
        for (String name : unknown) {
            check.due(name, x.node(Check.pack(name)), -1);
        }
        check.due("written but not loaded", writtenOnly().node('a'), -1);
        check.due("in a nothing line alone", Check.loaded("|i a").node('a'), -1);
    }

    private void noneIfThisIsNoName() {
        check.sentence("Promise 6", "(or this is no name)");
        SwitchLevels x = Check.loaded("i a;i abcd");
        check.due("no characters", x.node(0), -1);
        for (int c = 0; c < 256; c++) {
            check.due("character " + c, x.node(c), c == 'a' ? 0 : -1);
        }
        for (int place = 1; place < 8; place++) {
            check.due("a name not in the lowest byte, " + place, x.node((long) 'a' << (8 * place)), -1);
            check.due("a name and a byte above, " + place, x.node('a' | 1L << (8 * place)), -1);
            check.due("a name and the same behind zeros, " + place, x.node('a' | (long) 'a' << (8 * place)), -1);
        }
        for (int bit = 32; bit < 64; bit++) {
            check.due("four characters and bit " + bit, x.node(Check.pack("abcd") | 1L << bit), -1);
        }
        check.due("five characters", x.node(Check.pack("abcde")), -1);
        check.due("a blank behind", x.node(Check.pack("a ")), -1);
        check.due("great letters", x.node(Check.pack("ABCD")), -1);
        check.due("all bits", x.node(-1L), -1);
        check.due("the least long", x.node(Long.MIN_VALUE), -1);
    }
}
