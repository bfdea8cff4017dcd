/** Counts wrong answers, prints each of them, and ends the test with exit code 1 if there was one. */
final class Check {
    private int wrong = 0;
    private int asked = 0;

    void due(String what, long got, long want) {
        asked++;
        if (got != want) {
            wrong++;
            System.out.println(what + ": answered " + got + ", due is " + want);
        }
    }

    void due(String what, boolean got, boolean want) {
        due(what, got ? 1L : 0L, want ? 1L : 0L);
    }

    /** The answers one after the other, each as a figure or NONE's -1, between blanks. */
    void due(String what, String got, String want) {
        asked++;
        if (!got.equals(want)) {
            wrong++;
            System.out.println(what + ": answered " + got + ", due is " + want);
        }
    }

    void end() {
        System.out.println(asked + " answers, " + wrong + " not as due");
        if (wrong != 0) {
            System.exit(1);
        }
    }

    /** Up to eight characters in a long, the first in the lowest byte. */
    static long pack(String characters) {
        long packed = 0;
        for (int i = 0; i < characters.length(); i++) {
            packed |= (long) characters.charAt(i) << (8 * i);
        }
        return packed;
    }

    /** Adds a text of any length; false if any part was refused. */
    static boolean writeAll(SwitchLevels x, String text) {
        boolean all = true;
        for (int at = 0; at < text.length(); at += 8) {
            all &= x.write(pack(text.substring(at, Math.min(at + 8, text.length()))));
        }
        return all;
    }

    /** What loading a text answers on an object, in the place of the text that was. */
    static int loadText(SwitchLevels x, String text) {
        x.wipe();
        if (!writeAll(x, text)) {
            throw new IllegalArgumentException("the test's own text is refused");
        }
        return x.load();
    }

    /** A new object with a network that must be a good one; lines stand between semicolons. */
    static SwitchLevels loaded(String lines) {
        SwitchLevels x = new SwitchLevels();
        if (loadText(x, lines.replace(';', '\n')) < 0) {
            throw new IllegalArgumentException("the test's own network is bad");
        }
        return x;
    }

    /** Sets the nodes 0, 1, .. to the figures of a text. */
    static void setAll(SwitchLevels x, String states) {
        for (int n = 0; n < states.length(); n++) {
            x.set(n, states.charAt(n) - '0');
        }
    }

    static String states(SwitchLevels x) {
        StringBuilder all = new StringBuilder();
        for (int n = 0; n < x.nodes(); n++) {
            all.append(x.state(n));
        }
        return all.toString();
    }

    /** A node's firm, high and low levels. */
    static String levels(SwitchLevels x, int n) {
        return x.level(n, 0) + " " + x.level(n, 1) + " " + x.level(n, 2);
    }

    static String groups(SwitchLevels x) {
        StringBuilder all = new StringBuilder();
        for (int n = 0; n < x.nodes(); n++) {
            all.append(n == 0 ? "" : " ").append(x.group(n));
        }
        return all.toString();
    }

    /** The changes from the latest one on, each as step:node=state. */
    static String changes(SwitchLevels x) {
        StringBuilder all = new StringBuilder();
        for (int k = 0; k < 32 && x.change(k) != SwitchLevels.NONE; k++) {
            int c = x.change(k);
            all.append(k == 0 ? "" : " ").append(c / 128).append(':').append(c % 128 / 4).append('=').append(c % 4);
        }
        return all.toString();
    }
}
