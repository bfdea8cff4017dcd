/** Promises 1 to 3: each sentence on a new object, write and wipe that names an edge. */
public final class TextEdgesTest {
    private static final int FULL = 480;

    public static void main(String[] args) {
        Check check = new Check();
        emptyAtFirst(check);
        noNodeAtFirst(check);
        limitAtFirst(check);
        lowestFirst(check);
        zerosAreLeftOut(check);
        allowedCharacters(check);
        otherBytes(check);
        otherBytesChangeNothing(check);
        atMost480(check);
        tooManyChangeNothing(check);
        wipeMakesEmpty(check);
        wipeLeavesTheRest(check);
        check.end();
    }

    private static void emptyAtFirst(Check check) {
        check.sentence("Promise 1", "The text is empty");
        SwitchLevels x = new SwitchLevels();
        check.due("loading it", x.load(), 0);
        check.due("nodes of it", x.nodes(), 0);
        check.due("its room", Check.room(new SwitchLevels()), FULL);
    }

    private static void noNodeAtFirst(Check check) {
        check.sentence("Promise 1", "there is no node");
        SwitchLevels x = new SwitchLevels();
        check.due("nodes", x.nodes(), 0);
        check.due("state", x.state(0), -1);
        check.due("level", x.level(0, 0), -1);
        check.due("group", x.group(0), -1);
        check.due("set", x.set(0, 1), false);
        check.due("stick", x.stick(0, 1), false);
        check.due("free", x.free(0), false);
        check.due("jam", x.jam(0, 3), false);
        check.due("conducts", x.conducts(0), -1);
        check.due("node of no characters", x.node(0), -1);
        check.due("change", x.change(0), -1);
        check.due("a step changes none", x.step(), 0);
        check.due("it is settled with one step", x.settle(), 1);
        check.due("steps", x.steps(), 2);
        check.due("no change is noted", x.change(0), -1);
    }

    private static void limitAtFirst(Check check) {
        check.sentence("Promise 1", "LIMIT is 20");
        check.due("19 changes and a step without one", Check.fuse(19).settle(), 20);
        SwitchLevels twenty = Check.fuse(20);
        check.due("20 changes and a step without one", twenty.settle(), 21);
        check.due("the 20th is no doubtful one", twenty.state(21), 1);
        SwitchLevels more = Check.fuse(21);
        check.due("20 changes, a doubtful one, and a step without one", more.settle(), 22);
        check.due("the 20th", more.state(21), 1);
        check.due("the 21st is the doubtful one", more.state(22), 2);
    }

    private static void lowestFirst(Check check) {
        check.sentence("Promise 2", "the lowest first");
        SwitchLevels x = new SwitchLevels();
        check.due("n a bc d", x.write(0x642063622061206EL), true);
        check.due("load", x.load(), 1);
        check.due("a is the first", x.node('a'), 0);
        check.due("bc is the second", x.node(Check.pack("bc")), 1);
        check.due("cb is none", x.node(Check.pack("cb")), -1);
        check.due("d is the third", x.node('d'), 2);
        SwitchLevels parts = new SwitchLevels();
        parts.write(Check.pack("i a"));
        parts.write(Check.pack("bc"));
        parts.load();
        check.due("what is added stands behind what there was", parts.node(Check.pack("abc")), 0);
    }

    /** The first characters of a text in any of the eight bytes, with zeros in the others. */
    private static void zerosAreLeftOut(Check check) {
        check.sentence("Promise 2", "bytes 0 are left out");
        String text = "n a bc d";
        for (int mask = 0; mask < 256; mask++) {
            long packed = 0;
            int used = 0;
            for (int i = 0; i < 8; i++) {
                if ((mask >> i & 1) != 0) {
                    packed |= (long) text.charAt(used) << (8 * i);
                    used++;
                }
            }
            SwitchLevels x = new SwitchLevels();
            check.due("bytes " + mask, x.write(packed), true);
            x.write(Check.pack(text.substring(used)));
            check.due("bytes " + mask + ", load", x.load(), 1);
            check.due("bytes " + mask + ", d", x.node('d'), 2);
            check.due("bytes " + mask + ", room", Check.room(x), FULL - 8);
        }
        SwitchLevels full = new SwitchLevels();
        Check.room(full);
        check.due("zeros alone, also to a full text", full.write(0), true);
        check.due("it is as full as it was", full.write(' '), false);
    }

    private static SwitchLevels blanks(int count) {
        SwitchLevels x = new SwitchLevels();
        for (int i = 0; i + 8 <= count; i += 8) {
            x.write(Check.pack("        "));
        }
        x.write(Check.pack(" ".repeat(count % 8)));
        return x;
    }

    private static boolean isCharacter(int c) {
        return c == 10 || c >= 32 && c <= 126;
    }

    private static void allowedCharacters(Check check) {
        check.sentence("Terms", "THE TEXT has at most 480 characters, 10 and 32 .. 126");
        for (int c = 1; c < 256; c++) {
            SwitchLevels x = blanks(FULL - 1);
            check.due("character " + c, x.write((long) c << (8 * (c % 8))), isCharacter(c));
            check.due("character " + c + " is added", x.write(' '), !isCharacter(c));
        }
        int[] edges = {10, 32, 126};
        for (int c : edges) {
            check.due("eight of " + c, new SwitchLevels().write(c * 0x0101010101010101L), true);
        }
    }

    private static void otherBytes(Check check) {
        check.sentence("Promise 2", "False, adding none, if another byte is no such character");
        for (int c = 1; c < 256; c++) {
            for (int place = 0; place < 8 && !isCharacter(c); place++) {
                SwitchLevels x = new SwitchLevels();
                x.write(Check.pack("i a"));
                long packed = Check.pack("bbbbbbbb") & ~(0xFFL << (8 * place)) | (long) c << (8 * place);
                check.due("byte " + c + " at " + place, x.write(packed), false);
                check.due("byte " + c + " at " + place + " alone", x.write((long) c << (8 * place)), false);
                x.load();
                check.due("byte " + c + " at " + place + ", none added", x.node('a'), 0);
                x.write('c');
                x.load();
                check.due("byte " + c + " at " + place + ", then another", x.node(Check.pack("ac")), 0);
            }
        }
    }

    private static void otherBytesChangeNothing(Check check) {
        check.sentence("Promise 2", "False, adding none, if another byte is no such character");
        Twins twins = new Twins(check, Twins::busy);
        twins.refuse("a wrong byte behind good ones", x -> x.write(Check.pack("c\ni z\n g\u007F")));
        twins.refuse("a wrong byte before good ones", x -> x.write(Check.pack("\tc\ni z")));
        twins.refuse("bytes of 255", x -> x.write(-1L));
        twins.refuse("a wrong byte alone", x -> x.write(1L << 56));
    }

    /** A text of some length that ends with i ab, and letters added to it from one end of the eight bytes. */
    private static void atMost480(Check check) {
        check.sentence("Promise 2", "False, adding none, if .. there would be more than 480");
        for (int length = FULL - 9; length <= FULL; length++) {
            for (int more = 0; more <= 8; more++) {
                SwitchLevels x = blanks(length - 5);
                Check.writeAll(x, "\ni ab");
                boolean fits = length + more <= FULL;
                int shift = length % 2 == 0 ? 0 : 8 * (8 - more);
                long letters = more == 0 ? 0 : Check.pack("c".repeat(more)) << shift;
                String what = more + " to " + length;
                check.due(what, x.write(letters), fits);
                check.due(what + ", load", x.load(), fits && more > 2 ? -2 : 0);
                String name = fits ? "ab" + "c".repeat(more) : "ab";
                check.due(what + ", the name", x.node(Check.pack(name)), fits && more > 2 ? -1 : 0);
                check.due(what + ", room", Check.room(x), FULL - length - (fits ? more : 0));
            }
        }
        SwitchLevels full = new SwitchLevels();
        Check.room(full);
        check.due("one to a full text", full.write('\n'), false);
        check.due("a wrong byte to a full text", full.write(200), false);
    }

    private static void tooManyChangeNothing(Check check) {
        check.sentence("Promise 2", "False, adding none, if .. there would be more than 480");
        Twins twins = new Twins(check, () -> {
            SwitchLevels x = Twins.busy();
            x.wipe();
            Check.writeAll(x, "i a\n" + " ".repeat(FULL - 11) + "\ni a");
            return x;
        });
        twins.refuse("four, with room for three", x -> x.write(Check.pack("bcde")));
        twins.refuse("eight, with room for three", x -> x.write(Check.pack("b\ni z\nig")));
        twins.refuse("four between zeros", x -> x.write(Check.pack("b\0c\0d\0e")));
    }

    private static void wipeMakesEmpty(Check check) {
        check.sentence("Promise 3", "Makes the text empty");
        SwitchLevels bad = new SwitchLevels();
        bad.write(Check.pack("i a\n?"));
        check.due("a bad text", bad.load(), -2);
        bad.wipe();
        check.due("is gone", bad.load(), 0);
        check.due("with its good lines", bad.nodes(), 0);
        SwitchLevels full = new SwitchLevels();
        Check.room(full);
        full.wipe();
        check.due("room in the place of a full text", Check.room(full), FULL);
        SwitchLevels twice = new SwitchLevels();
        twice.wipe();
        twice.wipe();
        twice.write(Check.pack("i a"));
        check.due("an empty text is wiped too", twice.load(), 0);
        check.due("and can be written", twice.node('a'), 0);
        twice.wipe();
        twice.write(Check.pack("i b"));
        twice.load();
        check.due("the next text begins anew", twice.node('b'), 0);
    }

    private static void wipeLeavesTheRest(Check check) {
        check.sentence("Promise 3", "Makes the text empty");
        SwitchLevels x = Twins.busy();
        String before = Twins.picture(x);
        x.wipe();
        check.due("no more than the text", Twins.picture(x), before);
        check.due("who is stuck stays", x.free(4), true);
        check.due("who is an input stays", x.stick(0, 1), false);
        SwitchLevels limited = Check.fuse(2);
        limited.limit(1);
        limited.wipe();
        check.due("the limit stays", limited.settle(), 3);
        check.due("at 1", Check.states(limited), "1112");
    }
}
