import java.util.ArrayList;
import java.util.HashMap;
import java.util.List;
import java.util.Map;

/** The document taken word by word, without regard to speed or room: what the program is compared with. */
final class Model {
    private static final class Net {
        final List<Boolean> input = new ArrayList<>();
        final List<Integer> size = new ArrayList<>();
        final List<int[]> transistors = new ArrayList<>();
        final Map<String, Integer> names = new HashMap<>();

        int nodeOf(String name) {
            if (!names.containsKey(name)) {
                names.put(name, size.size());
                size.add(2);
                input.add(false);
            }
            return names.get(name);
        }
    }

    private String text = "";
    private Net net = new Net();
    private int[] state = new int[0];
    private boolean[] stuck = new boolean[0];
    private int[] jam = new int[0];
    private int limit = 20;
    private int steps = 0;
    private final List<Integer> changes = new ArrayList<>();

    boolean write(long characters) {
        StringBuilder more = new StringBuilder(text);
        for (int i = 0; i < 8; i++) {
            int c = (int) (characters >> 8 * i & 255);
            if (c != 0 && c != 10 && (c < 32 || c > 126)) {
                return false;
            }
            if (c != 0) {
                more.append((char) c);
            }
        }
        if (more.length() > 480) {
            return false;
        }
        text = more.toString();
        return true;
    }

    void wipe() {
        text = "";
    }

    int load() {
        Net fresh = new Net();
        String[] lines = text.split("\n", -1);
        for (int i = 0; i < lines.length; i++) {
            if (!readLine(fresh, lines[i])) {
                return -(i + 1);
            }
            if (fresh.size.size() > 24 || fresh.transistors.size() > 30 || fresh.names.size() > 40) {
                return -(i + 1);
            }
        }
        net = fresh;
        state = new int[net.size.size()];
        java.util.Arrays.fill(state, 2);
        stuck = new boolean[state.length];
        jam = new int[net.transistors.size()];
        java.util.Arrays.fill(jam, 3);
        steps = 0;
        changes.clear();
        return jam.length;
    }

    private static boolean readLine(Net fresh, String line) {
        String name = "[a-z0-9]{1,4}";
        String gap = " +";
        if (line.startsWith("|") || line.matches(" *")) {
            return true;
        }
        String[] words = line.strip().split(gap);
        String bare = String.join(" ", words);
        if (bare.matches("[npd] " + name + " " + name + " " + name + "( [123])?")) {
            int[] t = new int[5];
            t[0] = words[0].charAt(0);
            for (int i = 1; i <= 3; i++) {
                t[i] = fresh.nodeOf(words[i]);
            }
            t[4] = words.length == 5 ? Integer.parseInt(words[4]) : 2;
            fresh.transistors.add(t);
            return true;
        }
        if (bare.matches("i " + name)) {
            fresh.input.set(fresh.nodeOf(words[1]), true);
            return true;
        }
        if (bare.matches("s " + name + " [123]")) {
            fresh.size.set(fresh.nodeOf(words[1]), Integer.parseInt(words[2]));
            return true;
        }
        if (bare.matches("= " + name + " " + name) && !fresh.names.containsKey(words[1]) && !words[1].equals(words[2])) {
            fresh.names.put(words[1], fresh.nodeOf(words[2]));
            return true;
        }
        return false;
    }

    int nodes() {
        return state.length;
    }

    int node(long name) {
        for (Map.Entry<String, Integer> known : net.names.entrySet()) {
            if (Check.pack(known.getKey()) == name) {
                return known.getValue();
            }
        }
        return -1;
    }

    private boolean isNode(int n) {
        return 0 <= n && n < state.length;
    }

    private boolean isTransistor(int t) {
        return 0 <= t && t < jam.length;
    }

    private boolean led(int n) {
        return net.input.get(n) || stuck[n];
    }

    boolean set(int n, int s) {
        if (!isNode(n) || stuck[n] || s < 0 || s > 2) {
            return false;
        }
        state[n] = s;
        return true;
    }

    boolean stick(int n, int s) {
        if (!isNode(n) || net.input.get(n) || s < 0 || s > 2) {
            return false;
        }
        stuck[n] = true;
        state[n] = s;
        return true;
    }

    boolean free(int n) {
        if (!isNode(n) || !stuck[n]) {
            return false;
        }
        stuck[n] = false;
        return true;
    }

    boolean jam(int t, int how) {
        if (!isTransistor(t) || how < 0 || how > 3) {
            return false;
        }
        jam[t] = how;
        return true;
    }

    boolean limit(int n) {
        if (n < 1 || n > 50) {
            return false;
        }
        limit = n;
        return true;
    }

    int conducts(int t) {
        if (!isTransistor(t)) {
            return -1;
        }
        if (jam[t] != 3) {
            return jam[t];
        }
        int[] one = net.transistors.get(t);
        int gate = state[one[1]];
        return switch (one[0]) {
            case 'd' -> 1;
            case 'n' -> new int[] {0, 1, 2}[gate];
            default -> new int[] {1, 0, 2}[gate];
        };
    }

    /** The greatest of what the transistors that count bring to a node, from the levels that there are. */
    private int brought(int n, int[] levels, boolean alsoUnsure) {
        int most = 0;
        for (int t = 0; t < jam.length; t++) {
            int[] one = net.transistors.get(t);
            int how = conducts(t);
            if (how == 1 || how == 2 && alsoUnsure) {
                if (one[2] == n) {
                    most = Math.max(most, Math.min(one[4] + 3, levels[one[3]]));
                }
                if (one[3] == n) {
                    most = Math.max(most, Math.min(one[4] + 3, levels[one[2]]));
                }
            }
        }
        return most;
    }

    /** From nothing upwards, all nodes anew in each round, until the numbers fit together: the least that do. */
    private int[] firm() {
        int[] levels = new int[state.length];
        while (true) {
            int[] next = new int[state.length];
            for (int n = 0; n < state.length; n++) {
                next[n] = led(n) ? 7 : Math.max(net.size.get(n), brought(n, levels, false));
            }
            if (java.util.Arrays.equals(next, levels)) {
                return levels;
            }
            levels = next;
        }
    }

    private int[] side(int not, int[] firm) {
        int[] levels = new int[state.length];
        while (true) {
            int[] next = new int[state.length];
            for (int n = 0; n < state.length; n++) {
                if (led(n)) {
                    next[n] = state[n] != not ? 7 : 0;
                } else {
                    int h = Math.max(state[n] != not ? net.size.get(n) : 0, brought(n, levels, true));
                    next[n] = h >= firm[n] ? h : 0;
                }
            }
            if (java.util.Arrays.equals(next, levels)) {
                return levels;
            }
            levels = next;
        }
    }

    int level(int n, int which) {
        if (!isNode(n) || which < 0 || which > 2) {
            return -1;
        }
        int[] firm = firm();
        return which == 0 ? firm[n] : side(which - 1, firm)[n];
    }

    int step() {
        return step(false);
    }

    private int step(boolean doubt) {
        int[] firm = firm();
        int[] high = side(0, firm);
        int[] low = side(1, firm);
        steps++;
        int changed = 0;
        for (int n = 0; n < state.length; n++) {
            int to = led(n) ? state[n] : low[n] == 0 ? 1 : high[n] == 0 ? 0 : 2;
            if (to != state[n] && doubt) {
                to = 2;
            }
            if (to != state[n]) {
                state[n] = to;
                changes.add(0, 128 * steps + 4 * n + to);
                changed++;
            }
        }
        return changed;
    }

    int settle() {
        int made = 0;
        while (made < limit) {
            made++;
            if (step(false) == 0) {
                return made;
            }
        }
        while (true) {
            made++;
            if (step(true) == 0) {
                return made;
            }
        }
    }

    int steps() {
        return steps;
    }

    int state(int n) {
        return isNode(n) ? state[n] : -1;
    }

    int group(int n) {
        if (!isNode(n) || led(n)) {
            return -1;
        }
        boolean[] in = new boolean[state.length];
        in[n] = true;
        for (int round = 0; round < state.length; round++) {
            for (int[] one : net.transistors) {
                if (!led(one[2]) && !led(one[3]) && (in[one[2]] || in[one[3]])) {
                    in[one[2]] = true;
                    in[one[3]] = true;
                }
            }
        }
        int least = 0;
        while (!in[least]) {
            least++;
        }
        return least;
    }

    int change(int k) {
        return k >= 0 && k <= 31 && k < changes.size() ? changes.get(k) : -1;
    }
}
