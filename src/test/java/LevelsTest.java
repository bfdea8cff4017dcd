/** Promises 16 to 18: level, group and conducts, with the rules of evaluating. */
public final class LevelsTest {
    public static void main(String[] args) {
        Check check = new Check();
        wrongArguments(check);
        ledNodes(check);
        charges(check);
        strengths(check);
        unsureTransistors(check);
        blockedWays(check);
        ringsOfWays(check);
        longWays(check);
        selfJoined(check);
        groups(check);
        conducting(check);
        check.end();
    }

    private static void wrongArguments(Check check) {
        SwitchLevels x = Check.loaded("i a;n a b c");
        int[] wrong = {-1, 3, 24, Integer.MAX_VALUE, Integer.MIN_VALUE};
        for (int one : wrong) {
            check.due("level of no node " + one, x.level(one, 0), -1);
            check.due("no such level " + one, x.level(1, one), -1);
            check.due("no such level of an input " + one, x.level(0, one), -1);
            check.due("group of no node " + one, x.group(one), -1);
        }
        int[] none = {-1, 1, 30, Integer.MAX_VALUE, Integer.MIN_VALUE};
        for (int t : none) {
            check.due("conducts, no transistor " + t, x.conducts(t), -1);
        }
    }

    private static void ledNodes(Check check) {
        SwitchLevels x = Check.loaded("i a;s a 1;s b 1;d a a b");
        String[] want = {"7 0 7", "7 7 0", "7 7 7"};
        for (int state = 0; state < 3; state++) {
            x.set(0, state);
            check.due("an input of " + state, Check.levels(x, 0), want[state]);
            x.set(0, 1);
            x.stick(1, state);
            check.due("a stuck one of " + state, Check.levels(x, 1), want[state]);
        }
        check.due("asking makes no step", x.steps(), 0);
    }

    private static void charges(Check check) {
        SwitchLevels alone = Check.loaded("s a 1;s b 2;s c 3;n d d d");
        Check.setAll(alone, "0120");
        check.due("a 0 of size 1", Check.levels(alone, 0), "1 0 1");
        check.due("a 1 of size 2", Check.levels(alone, 1), "2 2 0");
        check.due("a 2 of size 3", Check.levels(alone, 2), "3 3 3");
        check.due("size 2 if none is told", Check.levels(alone, 3), "2 0 2");
        check.due("they hold", alone.step(), 0);
        SwitchLevels shared = Check.loaded("s a 1;s b 2;s c 2;d a a b 1;d a b c 3");
        Check.setAll(shared, "011");
        check.due("the greater charge", Check.levels(shared, 0), "2 2 0");
        check.due("is not touched", Check.levels(shared, 1), "2 2 0");
        Check.setAll(shared, "010");
        check.due("alike ones fight", Check.levels(shared, 0), "2 2 2");
        check.due("all become unknown", shared.step(), 3);
        check.due("they do", Check.states(shared), "222");
    }

    private static void strengths(Check check) {
        for (int one = 1; one <= 3; one++) {
            for (int two = 1; two <= 3; two++) {
                SwitchLevels x = Check.loaded("i v;i g;s a 3;d v v a " + one + ";d v g a " + two);
                Check.setAll(x, "10");
                int firm = Math.max(one, two) + 3;
                int high = one >= two ? firm : 0;
                int low = two >= one ? firm : 0;
                check.due(one + " against " + two, Check.levels(x, 2), firm + " " + high + " " + low);
                x.step();
                check.due("the stronger wins", x.state(2), one > two ? 1 : one < two ? 0 : 2);
            }
        }
        SwitchLevels told = Check.loaded("i v;d v v a;d a a b 3;d a b c 1;d a d c 2");
        setFirstTo1(told);
        check.due("2 if none is told", told.level(1, 0), 5);
        check.due("a stronger one does not lift it", told.level(2, 0), 5);
        check.due("a weaker one lowers it", told.level(3, 0), 4);
        check.due("from there on", Check.levels(told, 4), "4 4 0");
        SwitchLevels weak = Check.loaded("i v;s a 3;d v v a 1");
        Check.setAll(weak, "00");
        setFirstTo1(weak);
        check.due("the weakest beats the greatest charge", Check.levels(weak, 1), "4 4 0");
    }

    private static void setFirstTo1(SwitchLevels x) {
        x.set(0, 1);
    }

    private static void unsureTransistors(Check check) {
        SwitchLevels x = Check.loaded("i v;i c;s a 2;n c v a 3");
        Check.setAll(x, "021");
        check.due("the firm level leaves it out", Check.levels(x, 2), "2 2 6");
        x.step();
        check.due("in doubt", x.state(2), 2);
        Check.setAll(x, "020");
        check.due("the same either way", Check.levels(x, 2), "2 0 6");
        check.due("no doubt", x.step(), 0);
        SwitchLevels held = Check.loaded("i v;i g;i c;n c v a 1;d v g a 2");
        Check.setAll(held, "1021");
        check.due("too weak to raise doubt", Check.levels(held, 3), "5 0 5");
        held.step();
        check.due("the stronger one holds", held.state(3), 0);
        SwitchLevels strong = Check.loaded("i v;i g;i c;n c v a 3;d v g a 2");
        Check.setAll(strong, "1020");
        check.due("strong enough to raise doubt", Check.levels(strong, 3), "5 6 5");
        strong.step();
        check.due("in doubt by strength", strong.state(3), 2);
    }

    /** A way that ends at a node which something firmer holds goes no further behind it. */
    private static void blockedWays(Check check) {
        SwitchLevels x = Check.loaded("i v;i g;d v v a 1;d v g a 2;d v a b 3");
        Check.setAll(x, "10");
        check.due("a follows g", Check.levels(x, 2), "5 0 5");
        check.due("v does not reach b", Check.levels(x, 3), "5 0 5");
        SwitchLevels far = Check.loaded("i v;i g;d v v a 2;d v a b 1;d v g b 1;d v b c 2");
        Check.setAll(far, "10");
        check.due("a is held by v", Check.levels(far, 2), "5 5 0");
        check.due("b is reached by both alike", Check.levels(far, 3), "4 4 4");
        check.due("c behind it too", Check.levels(far, 4), "4 4 4");
        SwitchLevels cut = Check.loaded("i v;i c;i g;s a 1;d v g b 2;n c v a 1;d v a b 3");
        Check.setAll(cut, "120");
        check.due("an unsure way that is too weak", Check.levels(cut, 3), "5 0 5");
        cut.step();
        check.due("a follows g", cut.state(3), 0);
        check.due("b follows g", cut.state(4), 0);
    }

    /** Levels do not hold one another up round a ring: the least that fit together are meant. */
    private static void ringsOfWays(Check check) {
        SwitchLevels x = Check.loaded("d a a b 3;d a b c 3;d a c a 3;s a 1;s b 1;s c 1");
        Check.setAll(x, "000");
        check.due("a firm ring", Check.levels(x, 0), "1 0 1");
        check.due("holds", x.step(), 0);
    }

    /** A way through all 24 nodes, its transistors told from either end. */
    private static void longWays(Check check) {
        for (int turn = 0; turn < 2; turn++) {
            StringBuilder lines = new StringBuilder("i a");
            for (int i = 0; i < 24; i++) {
                lines.append(";s ").append((char) ('a' + i)).append(" 1");
            }
            for (int i = 0; i < 23; i++) {
                char from = (char) ('a' + (turn == 0 ? i : 22 - i));
                lines.append(";d a ").append(from).append(' ').append((char) (from + 1)).append(" 3");
            }
            SwitchLevels x = Check.loaded(lines.toString());
            setFirstTo1(x);
            check.due("the end of a long way", Check.levels(x, 23), "6 6 0");
            check.due("the group of its end", x.group(23), 1);
            check.due("all follow at once", x.step(), 23);
            check.due("to the end of it", Check.states(x), "1".repeat(24));
        }
    }

    private static void selfJoined(Check check) {
        SwitchLevels x = Check.loaded("d a a a 3;n b b b 3;p c c c 3");
        Check.setAll(x, "012");
        check.due("a with itself", Check.levels(x, 0), "2 0 2");
        check.due("b with itself", Check.levels(x, 1), "2 2 0");
        check.due("c with itself", Check.levels(x, 2), "2 2 2");
        check.due("they hold", x.step(), 0);
        check.due("groups of one", Check.groups(x), "0 1 2");
    }

    private static void groups(Check check) {
        SwitchLevels x = Check.loaded("i v;n v e d;n v d c;n v c b;p v b v;n b v f;n f v g;n c h h;n g i f");
        x.set(0, 0);
        check.due("numbers", x.node(Check.pack("e")), 1);
        // v0 e1 d2 c3 b4 f5 g6 h7 i8: e-d, d-c, c-b and i-f are joined; v and gates join none.
        check.due("also if off", Check.groups(x), "-1 1 1 1 1 5 6 7 5");
        x.set(0, 1);
        check.due("or on", Check.groups(x), "-1 1 1 1 1 5 6 7 5");
        x.jam(0, 0);
        check.due("or jammed off", Check.groups(x), "-1 1 1 1 1 5 6 7 5");
        x.stick(2, 0);
        check.due("a stuck one parts them", Check.groups(x), "-1 1 -1 3 3 5 6 7 5");
        x.stick(3, 0);
        x.stick(5, 0);
        check.due("more parts", Check.groups(x), "-1 1 -1 -1 4 -1 6 7 8");
        x.free(2);
        x.free(3);
        x.free(5);
        check.due("free again", Check.groups(x), "-1 1 1 1 1 5 6 7 5");
        SwitchLevels back = Check.loaded("s a 1;s b 1;s c 1;s d 1;s e 1;n a e d;n a e c;n a d b;n a b a");
        check.due("the least one from afar", Check.groups(back), "0 0 0 0 0");
        SwitchLevels two = Check.loaded("n a b c;n a d e;n a e c");
        check.due("groups that meet", Check.groups(two), "0 1 1 1 1");
    }

    private static void conducting(Check check) {
        SwitchLevels x = Check.loaded("i g;n g a b;p g a b;d g a b;n a a a;p a b a");
        String[] want = {"0 1 1", "1 0 1", "2 2 1"};
        for (int state = 0; state < 3; state++) {
            x.set(0, state);
            String got = x.conducts(0) + " " + x.conducts(1) + " " + x.conducts(2);
            check.due("a gate that is an input of " + state, got, want[state]);
            x.set(1, state);
            check.due("a gate that is none, n", x.conducts(3), state);
            check.due("a gate that is none, p", x.conducts(4), state == 2 ? 2 : 1 - state);
        }
        x.stick(1, 0);
        check.due("a stuck gate, n", x.conducts(3), 0);
        check.due("a stuck gate, p", x.conducts(4), 1);
    }
}
