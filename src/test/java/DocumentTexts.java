/** The terms of a text, sentence after sentence: characters, lines, words, names, and what lines may be. */
final class DocumentTexts {
    private static final int FULL = 480;

    private final Check check;
    private final Document document;

    DocumentTexts(Check check, Document document) {
        this.check = check;
        this.document = document;
    }

    void walk() {
        characters();
        lines();
        words();
        names();
        document.pass("Lines may be: ```text");
        nothing();
        transistors();
        inputs();
        sizes();
        otherNames();
        document.pass("```");
        newNames();
        badLines();
    }

    private void load(String text, int due) {
        check.due("load of " + text.replace('\n', ';'), Check.loadText(new SwitchLevels(), text), due);
    }

    private void characters() {
        document.sentence("THE TEXT has at most 480 characters, 10 and 32 .. 126.");
        check.due("room", Check.room(new SwitchLevels()), FULL);
        for (int c = 1; c < 256; c++) {
            boolean isOne = c == 10 || c >= 32 && c <= 126;
            check.due("character " + c, new SwitchLevels().write(c), isOne);
        }
    }

    private void lines() {
        document.sentence("LINES are what stands between the tens, and behind the last one (an empty line if that is nothing).");
        load("", 0);
        load("?", -1);
        load("\n?", -2);
        load("i a\n\n\n?\n\n", -4);
        load("n a b c\nd a b c", 2);
        load("n a b c\nd a b c\n", 2);
        load("n a b\nc", -1);
        load("\n".repeat(FULL), 0);
        load("\n".repeat(FULL - 1) + "i", -FULL);
    }

    private void words() {
        document.sentence("A line has WORDS: what stands between blanks (32).");
        load("n a b c", 1);
        load("  n   a  b    c  ", 1);
        load("na b c", -1);
        load("i a b", -1);
        check.due("none of its blanks", Check.loaded("  i  ab  ").node(Check.pack("ab")), 0);
    }

    private void names() {
        document.sentence("A NAME is a word of one to four letters a .. z or figures 0 .. 9.");
        String[] good = {"a", "z", "0", "9", "az", "09z", "a0z9", "zzzz", "0000", "n", "i", "s", "1"};
        for (String name : good) {
            load("i " + name, 0);
            check.due("known: " + name, Check.loaded("i " + name).node(Check.pack(name)), 0);
        }
        String[] bad = {"abcde", "00000", "A", "Z", "`", "{", "/", ":", "a_", "a-b", "=", "|", "abc.", "ab|c", "\"a\""};
        for (String name : bad) {
            load("i " + name, -1);
        }
    }

    private void nothing() {
        document.sentence("no words, or a first character | : nothing.");
        load(" ", 0);
        load("|", 0);
        load("|n a b c", 0);
        load("| what ever stands here !", 0);
        load(" |", -1);
        load("i a |", -1);
        check.due("no node of it", Check.loaded("|i a;  ;| n a b c").nodes(), 0);
    }

    private void transistors() {
        document.sentence("n, p or d, three names, and perhaps 1, 2 or 3: a transistor with gate, source, drain and strength "
            + "(2 if none is told).");
        String[] kinds = {"n", "p", "d"};
        for (String kind : kinds) {
            load(kind + " a b", -1);
            load(kind + " a b c", 1);
            load(kind + " a b c 0", -1);
            load(kind + " a b c 4", -1);
            load(kind + " a b c d", -1);
            load(kind + " a b c 11", -1);
            load(kind + " a b c 1 1", -1);
            load(kind + " a B c", -1);
            strengthsOf(kind);
        }
        SwitchLevels x = Check.loaded("n a b c;p b c a;d c a b");
        Check.setAll(x, "112");
        check.due("the gates are a, b and c", x.conducts(0) + " " + x.conducts(1) + " " + x.conducts(2), "1 0 1");
        check.due("source and drain are a group", Check.groups(Check.loaded("n a b c;i d;n d e f")), "0 1 1 -1 4 4");
    }

    private void strengthsOf(String kind) {
        String[] told = {"", " 1", " 2", " 3"};
        int[] due = {5, 4, 5, 6};
        for (int i = 0; i < told.length; i++) {
            SwitchLevels x = Check.loaded("i v;i g;" + kind + " g v a" + told[i]);
            x.set(1, kind.equals("p") ? 0 : 1);
            check.due("strength" + told[i] + " of " + kind, x.level(2, 0), due[i]);
        }
    }

    private void inputs() {
        document.sentence("i, a name: the node becomes an input.");
        load("i", -1);
        load("i a", 0);
        load("i a b", -1);
        load("i a 1", -1);
        SwitchLevels x = Check.loaded("n a b c;i b;i d;i b");
        check.due("b and d alone", x.stick(0, 0) + " " + x.stick(1, 0) + " " + x.stick(2, 0) + " " + x.stick(3, 0),
            "true false true false");
    }

    private void sizes() {
        document.sentence("s, a name, and 1, 2 or 3: the node's size (of no use while it is an input).");
        load("s", -1);
        load("s a", -1);
        load("s a 0", -1);
        load("s a 4", -1);
        load("s a b", -1);
        load("s a 1 1", -1);
        for (int size = 1; size <= 3; size++) {
            load("s a " + size, 0);
            check.due("size " + size, Check.loaded("s a " + size).level(0, 0), size);
            check.due("the last that is told", Check.loaded("s a 1;s a 3;s a " + size).level(0, 0), size);
            check.due("an input's", Check.loaded("i a;s a " + size).level(0, 0), 7);
            check.due("an input's, told before", Check.loaded("s a " + size + ";i a").level(0, 0), 7);
        }
    }

    private void otherNames() {
        document.sentence("=, a name, a name: the first name, which must not be known before and is not the second one, is known "
            + "from here on as one of the second one's node.");
        load("= a", -1);
        load("= a b", 0);
        load("= a b c", -1);
        load("= a a", -1);
        load("i a\n= a b", -2);
        load("= a b\n= a c", -2);
        load("= a b\n= b c", -2);
        load("= A b", -1);
        load("= a B", -1);
        SwitchLevels x = Check.loaded("i v;s w 3;= a w;= b a;= c v;s b 1;n c a e");
        String[] names = {"v", "w", "a", "b", "c", "e"};
        int[] due = {0, 1, 1, 1, 0, 2};
        for (int i = 0; i < names.length; i++) {
            check.due(names[i], x.node(Check.pack(names[i])), due[i]);
        }
        check.due("nodes", x.nodes(), 3);
        check.due("a size told by another name", x.level(1, 0), 1);
        check.due("joined by another name", x.group(2), 1);
        check.due("a gate by another name", gateOf(x), 1);
    }

    private static int gateOf(SwitchLevels x) {
        x.set(0, 1);
        return x.conducts(0);
    }

    private void newNames() {
        document.sentence("A name that is not known makes a node, with size 2, no input, and is known as its name from here on; "
            + "in a line they are made from left to right.");
        SwitchLevels x = Check.loaded("n z y x;n x w y;= u t;= v z;p q r s;i o;s m 1");
        String inOrder = "zyxwtqrsom";
        check.due("nodes", x.nodes(), inOrder.length());
        for (int n = 0; n < inOrder.length(); n++) {
            check.due("name " + inOrder.charAt(n), x.node(inOrder.charAt(n)), n);
        }
        for (int n = 0; n < 8; n++) {
            x.jam(0, 0);
            x.jam(1, 0);
            x.jam(2, 0);
            check.due("size of " + n, x.level(n, 0), 2);
            check.due("an input " + n, x.group(n) == -1, false);
        }
    }

    private static String inputsAndNames(int nodes, int others) {
        StringBuilder text = new StringBuilder();
        for (int i = 0; i < nodes; i++) {
            text.append("i ").append((char) ('a' + i)).append('\n');
        }
        for (int i = 0; i < others; i++) {
            text.append("= ").append((char) ('a' + i)).append("1 a\n");
        }
        return text.toString();
    }

    private void badLines() {
        document.sentence("Other lines are BAD, and so is one with which there would be more than 24 nodes, 30 transistors or 40 "
            + "known names.");
        String[] others = {"x", "a b", "N a b c", "nn a b c", "1", "= ", "I a", "S a 1", "== a b", "x a b c", "-"};
        for (String line : others) {
            load(line, -1);
        }
        load(inputsAndNames(24, 0), 0);
        load(inputsAndNames(24, 0) + "s a 1", 0);
        load(inputsAndNames(24, 0) + "s y 1", -25);
        load(inputsAndNames(23, 0) + "n a x x", 1);
        load(inputsAndNames(23, 0) + "n a x y", -24);
        load(inputsAndNames(24, 0) + "= y z", -25);
        load("p a b c\n".repeat(30), 30);
        load("p a b c\n".repeat(30) + "d a b c", -31);
        load(inputsAndNames(10, 26) + "= j2 b\n= j3 b\n= j4 b\n= j5 b", 0);
        load(inputsAndNames(10, 26) + "= j2 b\n= j3 b\n= j4 b\n= j5 b\n= j6 b", -41);
        load(inputsAndNames(10, 26) + "= j2 b\n= j3 b\n= j4 b\n= j5 b\ni k", -41);
        load(inputsAndNames(10, 26) + "= j2 b\n= j3 b\n= j4 b\n= j5 k", -40);
    }
}
