/** Promises 1 to 3: a new object, write and wipe. */
public final class TextTest {
    public static void main(String[] args) {
        Check check = new Check();
        newObject(check);
        writing(check);
        refusedBytes(check);
        fullText(check);
        wiping(check);
        check.end();
    }

    private static void newObject(Check check) {
        SwitchLevels x = new SwitchLevels();
        check.due("new: nodes", x.nodes(), 0);
        check.due("new: steps", x.steps(), 0);
        check.due("new: node", x.node(Check.pack("a")), -1);
        check.due("new: node of no characters", x.node(0), -1);
        check.due("new: state", x.state(0), -1);
        check.due("new: level", x.level(0, 0), -1);
        check.due("new: group", x.group(0), -1);
        check.due("new: conducts", x.conducts(0), -1);
        check.due("new: change", x.change(0), -1);
        check.due("new: set", x.set(0, 0), false);
        check.due("new: stick", x.stick(0, 0), false);
        check.due("new: free", x.free(0), false);
        check.due("new: jam", x.jam(0, 0), false);
        check.due("new: step", x.step(), 0);
        check.due("new: settle", x.settle(), 1);
        check.due("new: steps after them", x.steps(), 2);
        check.due("new: load of the empty text", x.load(), 0);
        check.due("new: steps after loading", x.steps(), 0);
    }

    private static void writing(Check check) {
        SwitchLevels x = new SwitchLevels();
        check.due("lowest byte first", x.write(Check.pack("n a bc d")), true);
        check.due("it is read so", x.load(), 1);
        check.due("the gate", x.node(Check.pack("a")), 0);
        check.due("the source", x.node(Check.pack("bc")), 1);
        check.due("the drain", x.node(Check.pack("d")), 2);
        x.wipe();
        check.due("zeros between are left out", x.write(Check.pack("i\0 \0\0a\0b")), true);
        check.due("what is left is read", x.load(), 0);
        check.due("the name without zeros", x.node(Check.pack("ab")), 0);
        check.due("more is added behind", x.write(Check.pack("\0cd\n")), true);
        x.load();
        check.due("the longer name", x.node(Check.pack("abcd")), 0);
        check.due("zeros alone", x.write(0), true);
        check.due("they add nothing", x.load(), 0);
    }

    private static void refusedBytes(Check check) {
        for (int c = 0; c < 256; c++) {
            boolean allowed = c == 0 || c == 10 || c >= 32 && c <= 126;
            for (int place = 0; place < 8; place++) {
                SwitchLevels x = new SwitchLevels();
                check.due("byte " + c + " at " + place, x.write((long) c << (8 * place)), allowed);
            }
        }
        SwitchLevels x = new SwitchLevels();
        check.due("a wrong byte behind good ones", x.write(Check.pack("i a\n\t")), false);
        check.due("a wrong byte before good ones", x.write(Check.pack("\u0080i a")), false);
        check.due("all bytes wrong", x.write(-1L), false);
        x.load();
        check.due("none of them was added", x.nodes(), 0);
    }

    private static void fullText(Check check) {
        SwitchLevels x = new SwitchLevels();
        for (int i = 0; i < 59; i++) {
            check.due("blanks " + i, x.write(Check.pack("        ")), true);
        }
        check.due("to 477", x.write(Check.pack("\ni ab")), true);
        check.due("four more are too many", x.write(Check.pack("cdef")), false);
        check.due("so are four with zeros between", x.write(Check.pack("c\0d\0e\0f")), false);
        check.due("eight more are too many", x.write(Check.pack("cdefghij")), false);
        x.load();
        check.due("no part of them was added", x.node(Check.pack("ab")), 0);
        check.due("zeros need no room", x.write(Check.pack("\0c\0\0\0\0\0d")), true);
        check.due("478, 479, then 480", x.write(Check.pack("\n")), true);
        x.load();
        check.due("the last ones count", x.node(Check.pack("abcd")), 0);
        check.due("none beyond 480", x.write(Check.pack(" ")), false);
        check.due("zeros are no characters", x.write(0), true);
        check.due("a full text is read", x.load(), 0);
    }

    private static void wiping(Check check) {
        SwitchLevels x = new SwitchLevels();
        x.write(Check.pack("x bad"));
        check.due("a bad text", x.load(), -1);
        x.wipe();
        check.due("the empty text", x.load(), 0);
        Check.writeAll(x, "n a b c");
        x.load();
        x.wipe();
        check.due("wiping leaves the network", x.nodes(), 3);
        check.due("its transistors too", x.conducts(0), 2);
        for (int i = 0; i < 60; i++) {
            check.due("there is room again " + i, x.write(Check.pack("        ")), true);
        }
        check.due("for 480", x.write(Check.pack(" ")), false);
        x.wipe();
        x.wipe();
        check.due("wiped twice", x.load(), 0);
        check.due("nothing is left", x.nodes(), 0);
    }
}
