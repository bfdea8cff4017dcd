/** The terms of a text: each sentence on lines, words, names and the kinds of lines that names an edge. */
public final class LineEdgesTest {
    private static final int FULL = 480;

    private final Check check;

    private LineEdgesTest(Check check) {
        this.check = check;
    }

    public static void main(String[] args) {
        Check check = new Check();
        LineEdgesTest test = new LineEdgesTest(check);
        test.linesBetweenTens();
        test.lineBehindTheLastTen();
        test.wordsBetweenBlanks();
        test.noWords();
        test.firstCharacter();
        test.nameCharacters();
        test.nameLengths();
        test.firstWords();
        test.transistorWords();
        test.strengths();
        test.strengthIfNoneIsTold();
        test.gateSourceDrain();
        test.inputs();
        test.sizes();
        test.sizeOfAnInput();
        test.firstNameNotKnownBefore();
        test.firstNameNotTheSecond();
        test.knownAsTheSecondOnesNode();
        test.otherNameWords();
        test.unknownNameMakesANode();
        test.leftToRight();
        check.end();
    }

    private static int load(String text) {
        return Check.loadText(new SwitchLevels(), text);
    }

    private void good(String text, int transistors) {
        check.due("good: " + text.replace('\n', ';'), load(text), transistors);
    }

    private void bad(String text, int line) {
        check.due("bad: " + text.replace('\n', ';'), load(text), -line);
    }

    private void linesBetweenTens() {
        check.sentence("Terms", "LINES are what stands between the tens");
        bad("?", 1);
        bad("?\n", 1);
        bad("?\ni a", 1);
        bad("\n?", 2);
        bad("i a\n?\ni b", 2);
        bad("\n\n\n?\n\n", 4);
        bad("|\n \ni a\nn a b c\ns a 1\n= d a\n?", 7);
        bad("i\na", 1);
        bad("i a\nb", 2);
        bad("n a b\nc", 1);
        bad("n a b c\n2", 2);
        check.due("a word ends with its line", Check.loaded("i a;i b").node(Check.pack("a")), 0);
        check.due("names in lines of their own", Check.loaded("i a;i b").nodes(), 2);
        check.due("a 480th line", load("\n".repeat(FULL - 1) + "?"), -FULL);
        check.due("all tens", load("\n".repeat(FULL)), 0);
    }

    private void lineBehindTheLastTen() {
        check.sentence("Terms", "and behind the last one (an empty line if that is nothing)");
        good("", 0);
        good("\n", 0);
        good("n a b c", 1);
        good("n a b c\n", 1);
        good("n a b c\nn a b c", 2);
        good("n a b c\nn a b c\n", 2);
        bad("n a b c\nn a b", 2);
        bad("n a b c\nn a b\n", 2);
        SwitchLevels x = Check.loaded("i a;".repeat(2) + " ".repeat(FULL - 12) + "i ab");
        check.due("the 480th character counts", x.node(Check.pack("ab")), 1);
        bad(" ".repeat(FULL - 1) + "i", 1);
    }

    private void wordsBetweenBlanks() {
        check.sentence("Terms", "A line has WORDS: what stands between blanks (32)");
        good(" n a b c", 1);
        good("n a b c ", 1);
        good("   n  a    b c   3   ", 1);
        good("i" + " ".repeat(FULL - 2) + "a", 0);
        bad("ia", 1);
        bad("na b c", 1);
        bad("n a b c2 3 1", 1);
        good("n a b c3", 1);
        check.due("c3 is one word", Check.loaded("n a b c3").node(Check.pack("c3")), 2);
        check.due("no blank belongs to a word", Check.loaded("  i   ab  ").node(Check.pack("ab")), 0);
        check.due("a blank ends a word", load("i a b"), -1);
        for (int c = 33; c <= 126; c++) {
            check.due("no blank: " + (char) c, load("i" + (char) c + "a"), -1);
        }
    }

    private void noWords() {
        check.sentence("Terms", "no words, or a first character | : nothing");
        good(" ", 0);
        good(" ".repeat(FULL), 0);
        check.due("no node of it", Check.loaded("   ;;  ").nodes(), 0);
        bad(" ?", 1);
        good(" \n   \n\nn a b c\n ", 1);
    }

    private void firstCharacter() {
        check.sentence("Terms", "no words, or a first character | : nothing");
        good("|", 0);
        good("||", 0);
        good("|?", 0);
        good("|n a b c", 0);
        good("| n a b c d e f g", 0);
        good("|" + "~ ".repeat(FULL / 2 - 1) + "!", 0);
        check.due("no node of it", Check.loaded("|i a;| i b").nodes(), 0);
        good("i a\n|\nn a b c\n| ?\n", 1);
        StringBuilder all = new StringBuilder("|");
        for (int c = 32; c <= 126; c++) {
            all.append((char) c);
        }
        good(all.toString(), 0);
        bad(" |", 1);
        bad("  | i a", 1);
        bad("i |", 1);
        bad("i a |", 1);
        bad("n a b c |", 1);
        bad("n a b c 1|", 1);
        bad("|\n?|", 2);
    }

    private static boolean isInName(int c) {
        return c >= 'a' && c <= 'z' || c >= '0' && c <= '9';
    }

    /** Every character at every place of a name, in every line that has one. */
    private void nameCharacters() {
        check.sentence("Terms", "A NAME is a word of one to four letters a .. z or figures 0 .. 9");
        String[] names = {"@", "@aaa", "a@aa", "aa@a", "aaa@"};
        String[] lines = {"n # b c", "p b # c", "d b c # 1", "i #", "s # 1", "= # b", "= b #"};
        for (int c = 33; c <= 126; c++) {
            for (String name : names) {
                for (String line : lines) {
                    String text = line.replace("#", name.replace('@', (char) c));
                    boolean twice = text.equals("= b b");
                    int due = !isInName(c) || twice ? -1 : "npd".indexOf(line.charAt(0)) >= 0 ? 1 : 0;
                    check.due(text, load(text), due);
                }
            }
        }
    }

    private void nameLengths() {
        check.sentence("Terms", "A NAME is a word of one to four letters a .. z or figures 0 .. 9");
        String[] lines = {"n # b c", "p b # c", "d b c # 1", "i #", "s # 1", "= # b", "= b #"};
        for (int length = 1; length <= 9; length++) {
            for (String line : lines) {
                String name = "zyx0123456".substring(0, length);
                String text = line.replace("#", name);
                int due = length > 4 ? -1 : "npd".indexOf(line.charAt(0)) >= 0 ? 1 : 0;
                check.due(text, load(text), due);
            }
        }
        SwitchLevels x = Check.loaded("n a ab abc;n abcd abc0 abca");
        check.due("names of which one begins another", x.nodes(), 6);
        check.due("abcd", x.node(Check.pack("abcd")), 3);
        check.due("abc", x.node(Check.pack("abc")), 2);
    }

    /** Every character as a first word, alone, doubled and before words that would suit some kind. */
    private void firstWords() {
        check.sentence("Terms", "Other lines are BAD");
        for (int c = 33; c <= 126; c++) {
            char k = (char) c;
            boolean transistor = k == 'n' || k == 'p' || k == 'd';
            int nothing = k == '|' ? 0 : -1;
            check.due(k + " alone", load("" + k), nothing);
            check.due(k + " with one name", load(k + " a"), k == 'i' ? 0 : nothing);
            check.due(k + " with two names", load(k + " a b"), k == '=' ? 0 : nothing);
            check.due(k + " with a name and a figure", load(k + " a 1"), k == 's' || k == '=' ? 0 : nothing);
            check.due(k + " with three names", load(k + " a b c"), transistor ? 1 : nothing);
            check.due(k + " with three names and a figure", load(k + " a b c 1"), transistor ? 1 : nothing);
            check.due(k + " with four names", load(k + " a b c d"), nothing);
            check.due(k + " with more", load(k + " a b c 1 1"), nothing);
            check.due(k + " doubled", load("" + k + k + " a b c"), nothing);
        }
        String[] others = {"", " ", "a", "1", "abcd", "a n b c", "1 n a b c", "a = b", "- i a"};
        for (String line : others) {
            check.due("other: " + line, load(line), line.isBlank() ? 0 : -1);
        }
    }

    private void transistorWords() {
        check.sentence("Terms", "n, p or d, three names, and perhaps 1, 2 or 3: a transistor");
        String[] kinds = {"n", "p", "d"};
        for (String kind : kinds) {
            bad(kind, 1);
            bad(kind + " a", 1);
            bad(kind + " a b", 1);
            good(kind + " a b c", 1);
            good(kind + " a b c 1", 1);
            good(kind + " a b 1", 1);
            bad(kind + " a b c 1 1", 1);
            bad(kind + " a b c 1 1 1", 1);
            bad(kind + " a b c a", 1);
        }
    }

    private void strengths() {
        check.sentence("Terms", "n, p or d, three names, and perhaps 1, 2 or 3: a transistor");
        for (int c = 33; c <= 126; c++) {
            int due = c >= '1' && c <= '3' ? 1 : -1;
            check.due("n a b c " + (char) c, load("n a b c " + (char) c), due);
            check.due("d a b c " + (char) c, load("d a b c " + (char) c), due);
            check.due("s a " + (char) c, load("s a " + (char) c), due == 1 ? 0 : -1);
        }
        String[] wrong = {"0", "4", "11", "12", "01", "1a", "a1", "-1", "+1", "1.", "22", "33", "123", "00002"};
        for (String word : wrong) {
            bad("n a b c " + word, 1);
            bad("p a b c " + word, 1);
            bad("s a " + word, 1);
        }
        for (int strength = 1; strength <= 3; strength++) {
            SwitchLevels x = Check.loaded("i v;d v v a " + strength);
            check.due("strength " + strength, x.level(1, 0), strength + 3);
        }
    }

    private void strengthIfNoneIsTold() {
        check.sentence("Terms", "strength (2 if none is told)");
        SwitchLevels x = Check.loaded("i v;d v v a 3;d v v b;d v v c 1");
        check.due("between others", x.level(1, 0) + " " + x.level(2, 0) + " " + x.level(3, 0), "6 5 4");
        SwitchLevels n = Check.loaded("i v;n v v a;p v v b");
        n.set(0, 1);
        check.due("of an n", n.level(1, 0), 5);
        n.set(0, 0);
        check.due("of a p", n.level(2, 0), 5);
        check.due("three names of figures and no strength", Check.loaded("d 3 3 1").level(1, 0), 2);
    }

    private void gateSourceDrain() {
        check.sentence("Terms", "a gate, a source and a drain (nodes, perhaps the same)");
        String[] lines = {"n a a a", "n a a b", "n a b a", "n b a a", "p a a a 1", "d a a a 3"};
        for (String line : lines) {
            good(line, 1);
        }
        check.due("one node", Check.loaded("n a a a").nodes(), 1);
        check.due("two nodes", Check.loaded("n a b a").nodes(), 2);
        SwitchLevels x = Check.loaded("i v;n g v a");
        x.set(0, 1);
        x.set(1, 1);
        check.due("the first name is the gate", x.conducts(0), 1);
        check.due("the others are joined", x.level(2, 0), 5);
        check.due("the gate is not", x.level(1, 0), 2);
    }

    private void inputs() {
        check.sentence("Terms", "i, a name: the node becomes an input");
        bad("i", 1);
        good("i a", 0);
        bad("i a b", 1);
        bad("i a 1", 1);
        good("i a\ni a", 0);
        check.due("no input before", Check.loaded("n a b c").level(0, 0), 2);
        check.due("an input", Check.loaded("n a b c;i a").level(0, 0), 7);
        check.due("an input twice", Check.loaded("i a;i a").level(0, 0), 7);
        check.due("the last of three", Check.loaded("n a b c;i c").level(2, 0), 7);
        check.due("by another name", Check.loaded("n a b c;= d c;i d").level(2, 0), 7);
        check.due("others do not", Check.loaded("n a b c;i c").level(1, 0), 2);
    }

    private void sizes() {
        check.sentence("Terms", "s, a name, and 1, 2 or 3: the node's size");
        bad("s", 1);
        bad("s a", 1);
        bad("s 1", 1);
        good("s a 1", 0);
        bad("s a 1 1", 1);
        bad("s a 0", 1);
        bad("s a 4", 1);
        bad("s a b", 1);
        for (int size = 1; size <= 3; size++) {
            check.due("size " + size, Check.loaded("s a " + size).level(0, 0), size);
            check.due("told last " + size, Check.loaded("s a 1;s a 3;s a " + size).level(0, 0), size);
        }
        check.due("a name of a figure", Check.loaded("s 1 3").level(0, 0), 3);
        check.due("others stay at 2", Check.loaded("n a b c;s b 3").level(2, 0), 2);
    }

    private void sizeOfAnInput() {
        check.sentence("Terms", "(of no use while it is an input)");
        good("i a\ns a 1", 0);
        for (int size = 1; size <= 3; size++) {
            SwitchLevels before = Check.loaded("s a " + size + ";i a;d a a b");
            SwitchLevels after = Check.loaded("i a;s a " + size + ";d a a b");
            before.set(0, 1);
            after.set(0, 1);
            check.due("told before", Check.levels(before, 0) + " " + Check.levels(before, 1), "7 7 0 5 5 0");
            check.due("told behind", Check.levels(after, 0) + " " + Check.levels(after, 1), "7 7 0 5 5 0");
            check.due("it is an input all the same", after.stick(0, 1), false);
        }
    }

    private void firstNameNotKnownBefore() {
        check.sentence("Terms", "=, a name, a name: the first name, which must not be known before");
        good("= a b", 0);
        good("= a b\n= c b\n= d a", 0);
        bad("i a\n= a b", 2);
        bad("i b\n= b a", 2);
        bad("i a\ni b\n= a b", 3);
        bad("= a b\n= a b", 2);
        bad("= a b\n= a c", 2);
        bad("= a b\n= b a", 2);
        bad("= a b\n= b c", 2);
        bad("n x y a\n= a b", 2);
        bad("s a 1\n= a b", 2);
        good("= a b\ni a", 0);
        good("= a b\ni b", 0);
        check.due("a bad line makes no node", loadedAfter("i a\n= a b").nodes(), 0);
    }

    private static SwitchLevels loadedAfter(String text) {
        SwitchLevels x = new SwitchLevels();
        Check.loadText(x, text);
        return x;
    }

    private void firstNameNotTheSecond() {
        check.sentence("Terms", "and is not the second one");
        bad("= a a", 1);
        bad("= abcd abcd", 1);
        bad("i a\n= a a", 2);
        bad("i b\n= a a", 2);
        good("= abcd abce", 0);
        good("= a aa", 0);
        good("= aa a", 0);
    }

    private void knownAsTheSecondOnesNode() {
        check.sentence("Terms", "is known from here on as one of the second one's node");
        SwitchLevels x = Check.loaded("i v;i a;= b a;= c b;= d v;n c b d;= e f;i g;s e 3");
        String[] names = {"v", "a", "b", "c", "d", "e", "f", "g"};
        int[] due = {0, 1, 1, 1, 0, 2, 2, 3};
        for (int i = 0; i < names.length; i++) {
            check.due(names[i], x.node(Check.pack(names[i])), due[i]);
        }
        check.due("nodes", x.nodes(), 4);
        check.due("a size by it", x.level(2, 0), 3);
        SwitchLevels later = Check.loaded("n a b c;= d a;n d b c");
        later.set(0, 1);
        check.due("a gate by it", later.conducts(1), 1);
    }

    private void otherNameWords() {
        check.sentence("Terms", "=, a name, a name");
        bad("=", 1);
        bad("= a", 1);
        good("= a b", 0);
        bad("= a b c", 1);
        bad("= a b 1", 1);
        bad("=a b", 1);
        bad("a = b", 1);
        good("= 1 2", 0);
    }

    private void unknownNameMakesANode() {
        check.sentence("Terms", "A name that is not known makes a node, with size 2, no input");
        String[] lines = {"n # b c", "n b # c", "n b c #", "= z #"};
        for (String line : lines) {
            SwitchLevels x = Check.loaded(line.replace("#", "q"));
            int n = x.node(Check.pack("q"));
            check.due(line + ": its size", x.level(n, 0), 2);
            check.due(line + ": its state", x.state(n), 2);
            check.due(line + ": no input", x.stick(n, 0), true);
        }
        check.due("s makes one that is no input", Check.loaded("s q 2").stick(0, 0), true);
        check.due("i makes one", Check.loaded("i q").nodes(), 1);
        check.due("a known one makes none", Check.loaded("i q;s q 1;n q q q;= r q;i r").nodes(), 1);
        check.due("after another network with inputs", afterInputs().level(0, 0), 2);
        check.due("after one with other sizes", afterInputs().level(1, 0), 2);
    }

    /** A network whose nodes stand where inputs and other sizes stood before. */
    private static SwitchLevels afterInputs() {
        SwitchLevels x = Check.loaded("i a;s b 3;i c;s d 1");
        Check.loadText(x, "i a\ns b 3\ni c\ns d 1");
        Check.loadText(x, "n a b c\nn d d d");
        return x;
    }

    private void leftToRight() {
        check.sentence("Terms", "in a line they are made from left to right");
        SwitchLevels x = Check.loaded("n c b a;p e c d 1;= g f;= h i");
        String[] names = {"c", "b", "a", "e", "d", "f", "i"};
        for (int n = 0; n < names.length; n++) {
            check.due(names[n], x.node(Check.pack(names[n])), n);
        }
        check.due("g is f's", x.node(Check.pack("g")), 5);
        check.due("h is i's", x.node(Check.pack("h")), 6);
        SwitchLevels same = Check.loaded("n b a b;n a b c");
        check.due("b first", same.node(Check.pack("b")), 0);
        check.due("then a", same.node(Check.pack("a")), 1);
        check.due("then c", same.node(Check.pack("c")), 2);
    }
}
