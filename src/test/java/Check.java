/** Counts wrong answers, prints each of them, and ends the test with exit code 1 if there was one. */
final class Check {
    private int wrong = 0;
    private int asked = 0;
    private String sentence = "";

    /** From here on a wrong answer is told with the sentence of the document that it breaks. */
    void sentence(String where, String words) {
        sentence = where + ", \"" + words + "\": ";
    }

    void due(String what, long got, long want) {
        due(what, Long.toString(got), Long.toString(want));
    }

    void due(String what, boolean got, boolean want) {
        due(what, got ? 1L : 0L, want ? 1L : 0L);
    }

    /** The answers one after the other, each as a figure or NONE's -1, between blanks. */
    void due(String what, String got, String want) {
        asked++;
        if (!got.equals(want)) {
            wrong++;
            System.out.println(sentence + what + ": answered " + got + ", due is " + want);
        }
    }

    void end() {
        System.out.println(asked + " answers, " + wrong + " not as due");
        if (wrong != 0) {
            System.exit(1);
        }
    }

    /** Up to eight characters in a long, the first in the lowest byte. */
    static long pack(String characters) {
        long packed = 0;
        for (int i = 0; i < characters.length(); i++) {
            packed |= (long) characters.charAt(i) << (8 * i);
        }
        return packed;
    }

    /** Adds a text of any length; false if any part was refused. */
    static boolean writeAll(SwitchLevels x, String text) {
        boolean all = true;
        for (int at = 0; at < text.length(); at += 8) {
            all &= x.write(pack(text.substring(at, Math.min(at + 8, text.length()))));
        }
        return all;
    }

    /** What loading a text answers on an object, in the place of the text that was. */
    static int loadText(SwitchLevels x, String text) {
        x.wipe();
        if (!writeAll(x, text)) {
            throw new IllegalArgumentException("the test's own text is refused");
        }
        return x.load();
    }

    /** A new object with a network that must be a good one; lines stand between semicolons. */
    static SwitchLevels loaded(String lines) {
        SwitchLevels x = new SwitchLevels();
        if (loadText(x, lines.replace(';', '\n')) < 0) {
            throw new IllegalArgumentException("the test's own network is bad");
        }
        return x;
    }

    /** Sets the nodes 0, 1, .. to the figures of a text. */
    static void setAll(SwitchLevels x, String states) {
        for (int n = 0; n < states.length(); n++) {
            x.set(n, states.charAt(n) - '0');
        }
    }

    static String states(SwitchLevels x) {
        StringBuilder all = new StringBuilder();
        int count = x.nodes();
        for (int n = 0; n < count; n++) {
            all.append(x.state(n));
        }
        return all.toString();
    }

    /** A node's firm, high and low levels. */
    static String levels(SwitchLevels x, int n) {
        return x.level(n, 0) + " " + x.level(n, 1) + " " + x.level(n, 2);
    }

    static String groups(SwitchLevels x) {
        StringBuilder all = new StringBuilder();
        int count = x.nodes();
        for (int n = 0; n < count; n++) {
            all.append(n == 0 ? "" : " ").append(x.group(n));
        }
        return all.toString();
    }

    /** The changes from the latest one on, each as step:node=state. */
    static String changes(SwitchLevels x) {
        StringBuilder all = new StringBuilder();
        int c = x.change(0);
        for (int k = 1; k <= 32 && c != SwitchLevels.NONE; k++) {
            all.append(k == 1 ? "" : " ").append(c / 128).append(':').append(c % 128 / 4).append('=').append(c % 4);
            c = x.change(k);
        }
        return all.toString();
    }

    /** How many characters the text still takes; it is full then. */
    static int room(SwitchLevels x) {
        int taken = 0;
        while (taken <= 480 && x.write(pack("        "))) {
            taken += 8;
        }
        while (taken <= 480 && x.write(pack(" "))) {
            taken++;
        }
        return taken;
    }

    /** A chain 0, a, b, .. of holders behind a leading 1: a set to 1 brings the others to 1, one in each step. */
    static SwitchLevels fuse(int stages) {
        StringBuilder lines = new StringBuilder("i 1");
        for (int i = 0; i < stages; i++) {
            lines.append(";n ").append((char) ('a' + i)).append(" 1 ").append((char) ('b' + i));
        }
        SwitchLevels x = loaded(lines.toString());
        setAll(x, "11" + "0".repeat(stages));
        return x;
    }
}
