/** Promises 4 to 6: load, nodes and node. */
public final class LoadTest {
    public static void main(String[] args) {
        Check check = new Check();
        goodLines(check);
        badLines(check);
        lineNumbers(check);
        names(check);
        otherNames(check);
        mostNodes(check);
        mostTransistors(check);
        mostNames(check);
        badLeavesAll(check);
        loadingAnew(check);
        check.end();
    }

    private static int load(String text) {
        return Check.loadText(new SwitchLevels(), text);
    }

    private static void goodLines(Check check) {
        String[] nothing = {
            "", "\n", "\n\n\n", " ", "    ", "|", "| n a b c", "|n a", "||||", "|\n|\n", "i a", " i a", "i a ",
            "  i   a  ", "i 0", "i 9z0a", "i i", "s a 1", "s a 2", "s a 3", "s  a   3 ", "= a b", "  =  a  b  ",
            "i a\ni a", "s a 1\ns a 3", "i a\ns a 1", "s 1 1", "= 1 2",
        };
        for (String text : nothing) {
            check.due("good without transistors: " + text, load(text), 0);
        }
        String[] one = {
            "n a b c", "p a b c", "d a b c", "n a b c 1", "n a b c 2", "p a b c 3", "d a b c 1", "n a a a",
            "n n n n", "d p d n 3", " n  a   b c  2 ", "n 1 2 3", "n 1 2 3 1", "n abcd 0123 zzzz 3", "\nn a b c\n",
        };
        for (String text : one) {
            check.due("good with one transistor: " + text, load(text), 1);
        }
        check.due("three transistors", load("n a b c\n\np a b c\n|\nd c c c 3"), 3);
    }

    private static void badLines(Check check) {
        String[] bad = {
            "x", "n", "p", "d", "i", "s", "=", "a", "1", "x a", "n a", "n a b", "n a b c d", "n a b c 0", "n a b c 4",
            "n a b c 12", "n a b c 02", "n a b c -1", "n a b c 1 1", "n a b c 1 1 1", "nn a b c", "N a b c",
            "n A b c", "n a B c", "n a b C", "n abcde b c", "n a abcde c", "n a b abcde", "n a_ b c", "n a b- c",
            "n a b | c", "i a b", "i a 1", "i abcde", "i A", "i a.", "i |", "ii a", "I a", "ia", "na b c",
            "s a", "s a 0", "s a 4", "s a 11", "s a x", "s a 1 1", "s abcde 1", "s A 1", "s 1", "ss a 1",
            "= a", "= a b c", "= a a", "= A b", "= a B", "= abcde b", "= a abcde", "=a b", "== a b", "= a =",
            " |", " | n a b c", " ||", "n a b c |", "i a |", "- a", "~", "!", "\"", "= a-b c", "i `", "i {", "i /", "i :",
        };
        for (String text : bad) {
            check.due("bad: " + text, load(text), -1);
        }
    }

    private static void lineNumbers(Check check) {
        check.due("behind an empty line", load("\nx"), -2);
        check.due("behind nothing lines", load("|\n \n\n\nx\n"), -5);
        check.due("the first of two", load("i a\nx\ni b\ny"), -2);
        check.due("the last line without a ten", load("i a\ni b\ni"), -3);
        check.due("far down", load("\n".repeat(479) + "x"), -480);
        check.due("all lines empty", load("\n".repeat(480)), 0);
    }

    private static void names(Check check) {
        SwitchLevels x = Check.loaded("i a;n bb ccc dddd;s a9 1;n ccc e a 3;= f g");
        check.due("nodes", x.nodes(), 7);
        String[] made = {"a", "bb", "ccc", "dddd", "a9", "e", "g"};
        for (int n = 0; n < made.length; n++) {
            check.due("made from left to right: " + made[n], x.node(Check.pack(made[n])), n);
        }
        String[] unknown = {"", "b", "c", "aa", "A", "dddde", "cccc", "bb ", " a", "a\0b", "\0a", "a\0\0\0\0\0\0a", "="};
        for (String name : unknown) {
            check.due("not known: " + name, x.node(Check.pack(name)), -1);
        }
        check.due("the sign bit set", x.node(Check.pack("a") | Long.MIN_VALUE), -1);
        check.due("a bit above the name", x.node(Check.pack("dddd") | 1L << 32), -1);
        check.due("all bits", x.node(-1L), -1);
    }

    private static void otherNames(Check check) {
        SwitchLevels x = Check.loaded("i a;= b a;= c b;n c d b;= e f;s e 1");
        check.due("nodes with other names", x.nodes(), 3);
        check.due("a", x.node(Check.pack("a")), 0);
        check.due("b is a", x.node(Check.pack("b")), 0);
        check.due("c is b's", x.node(Check.pack("c")), 0);
        check.due("d", x.node(Check.pack("d")), 1);
        check.due("the second name makes a node", x.node(Check.pack("f")), 2);
        check.due("the first is known as its", x.node(Check.pack("e")), 2);
        check.due("a size by the other name", x.level(2, 0), 1);
        check.due("an input by the other name", Check.loaded("= b a;i b").stick(0, 1), false);
        check.due("known as a node", load("i a\n= a b"), -2);
        check.due("known as another name", load("= a b\n= a c"), -2);
        check.due("known as a second name", load("= a b\n= b c"), -2);
        check.due("the same names twice", load("= a b\n= a b"), -2);
        check.due("a known one as itself", load("i a\n= a a"), -2);
        check.due("another name makes no node of its own", Check.loaded("= a b;i a;i c").nodes(), 2);
    }

    /** Nodes a, b, .. in lines of their own. */
    private static String inputs(int count) {
        StringBuilder text = new StringBuilder();
        for (int i = 0; i < count; i++) {
            text.append("i ").append((char) ('a' + i)).append('\n');
        }
        return text.toString();
    }

    private static void mostNodes(Check check) {
        SwitchLevels x = new SwitchLevels();
        check.due("24 nodes", Check.loadText(x, inputs(24)), 0);
        check.due("there are 24", x.nodes(), 24);
        check.due("the last", x.node(Check.pack("x")), 23);
        check.due("it has a state", x.state(23), 2);
        check.due("there is no 25th", x.state(24), -1);
        check.due("25 nodes by i", load(inputs(24) + "i y"), -25);
        check.due("25 nodes by s", load(inputs(24) + "s y 1"), -25);
        check.due("25 nodes by =", load(inputs(24) + "= y z"), -25);
        check.due("25 nodes by a gate", load(inputs(24) + "n y a b"), -25);
        check.due("25 nodes by a drain", load(inputs(22) + "n w x y"), -23);
        check.due("24 nodes by a drain", load(inputs(21) + "n v w x"), 1);
        check.due("known ones go on", load(inputs(24) + "n a b c\ns x 1\n= y x\ni y"), 1);
    }

    private static void mostTransistors(Check check) {
        SwitchLevels x = new SwitchLevels();
        check.due("30 transistors", Check.loadText(x, "d a b c\n".repeat(30)), 30);
        check.due("the last", x.conducts(29), 1);
        check.due("there is no 31st", x.conducts(30), -1);
        check.due("31 transistors", load("d a b c\n".repeat(31)), -31);
        check.due("31 and a bad line before", load("x\n" + "d a b c\n".repeat(31)), -1);
    }

    private static String otherNames(int count) {
        StringBuilder text = new StringBuilder();
        for (int i = 0; i < count; i++) {
            text.append("= ").append(10 + i).append(" a\n");
        }
        return text.toString();
    }

    private static void mostNames(Check check) {
        SwitchLevels x = new SwitchLevels();
        check.due("40 names of one node", Check.loadText(x, otherNames(39)), 0);
        check.due("one node", x.nodes(), 1);
        check.due("the last name", x.node(Check.pack("48")), 0);
        check.due("41 names by =", load(otherNames(40)), -40);
        check.due("41 names by a node", load(otherNames(39) + "i b"), -40);
        check.due("a node and another name for 40", load(otherNames(37) + "= b c"), 0);
        check.due("a node and another name for 41", load(otherNames(38) + "= b c"), -39);
        check.due("known ones at 40", load(otherNames(39) + "n a 10 48\ni 20"), 1);
        check.due("41 names by a drain", load(otherNames(37) + "n b c d"), -38);
    }

    private static void badLeavesAll(Check check) {
        SwitchLevels x = Check.loaded("i a;n a b c 3;= d c;s b 1");
        Check.setAll(x, "101");
        x.stick(2, 0);
        x.jam(0, 2);
        x.limit(1);
        x.step();
        x.set(1, 1);
        x.step();
        String changes = Check.changes(x);
        check.due("a bad text", Check.loadText(x, "i z\ni y\nd z z y\n= q y\n?"), -5);
        check.due("nodes stay", x.nodes(), 3);
        check.due("names stay", x.node(Check.pack("d")), 2);
        check.due("no new names", x.node(Check.pack("z")), -1);
        check.due("states stay", Check.states(x), "120");
        check.due("inputs stay", x.stick(0, 1), false);
        check.due("the jam stays", x.conducts(0), 2);
        check.due("steps stay", x.steps(), 2);
        check.due("changes stay", Check.changes(x), changes);
        check.due("there are changes", changes, "2:1=2");
        check.due("sizes stay", x.level(1, 0), 1);
        check.due("the stuck one stays", x.free(2), true);
        check.due("bad again", x.load(), -5);
        check.due("and still the old one", x.nodes(), 3);
    }

    private static void loadingAnew(Check check) {
        SwitchLevels x = Check.loaded("i a;n a b c 3;= d c;s b 1");
        x.limit(3);
        x.set(0, 1);
        x.stick(1, 1);
        x.jam(0, 0);
        x.jam(0, 1);
        x.settle();
        check.due("loaded again", x.load(), 1);
        check.due("all states are 2", Check.states(x), "222");
        check.due("none is stuck", x.free(1), false);
        check.due("nothing is jammed", x.conducts(0), 2);
        check.due("steps are 0", x.steps(), 0);
        check.due("no change is noted", x.change(0), -1);
        check.due("the text stays", x.load(), 1);
        check.due("another network", Check.loadText(x, "s c 3\nn c c a"), 1);
        check.due("its nodes", x.nodes(), 2);
        check.due("c is its first", x.node(Check.pack("c")), 0);
        check.due("a is no input now", x.stick(1, 0), true);
        check.due("old names are gone", x.node(Check.pack("d")), -1);
        check.due("sizes are its own", x.level(0, 0), 3);
        check.due("a new one's size", Check.loaded("n a b c").level(1, 0), 2);
        checkLimitStays(check, x);
    }

    /** A ring of three inverters runs on until the limit, which loading does not touch; then 3 become unknown. */
    private static void checkLimitStays(Check check, SwitchLevels x) {
        Check.loadText(x, "i v\ni g\np a v b\nn a g b\np b v c\nn b g c\np c v a\nn c g a");
        Check.setAll(x, "10101");
        check.due("the limit is still 3", x.settle(), 3 + 3 + 1);
    }
}
