import java.util.Random;
import java.util.function.BooleanSupplier;
import java.util.function.LongSupplier;

/** All promises at once: long runs of calls, from seeds that are fixed, answered as the plain model answers them. */
public final class ModelTest {
    private static final int RUNS = 1500;
    private static final int MOST_CALLS = 512;
    private static final int CALLS_BEFORE_ALL_IS_ASKED = 310;

    private final Check check;
    private final Random random;
    private final int run;
    private final SwitchLevels x = new SwitchLevels();
    private final Model model = new Model();
    private final int namesInUse;
    private int calls = 0;

    private ModelTest(Check check, int run) {
        this.check = check;
        this.run = run;
        this.random = new Random(run);
        this.namesInUse = 3 + random.nextInt(26);
    }

    public static void main(String[] args) {
        Check check = new Check();
        for (int run = 1; run <= RUNS; run++) {
            ModelTest one = new ModelTest(check, run);
            one.writeNetwork();
            while (one.calls < CALLS_BEFORE_ALL_IS_ASKED) {
                one.anyCall();
            }
            one.askAll();
        }
        check.end();
    }

    /** Makes the call on both, unless the object has had all the calls that it is good for. */
    private void due(String call, LongSupplier got, LongSupplier want) {
        if (calls < MOST_CALLS) {
            calls++;
            check.due("run " + run + ", call " + calls + ", " + call, got.getAsLong(), want.getAsLong());
        }
    }

    private void due(String call, BooleanSupplier got, BooleanSupplier want) {
        due(call, () -> got.getAsBoolean() ? 1L : 0L, () -> want.getAsBoolean() ? 1L : 0L);
    }

    private void writeNetwork() {
        due("wipe", () -> wipeBoth(), () -> true);
        boolean mayBeBad = random.nextInt(4) == 0;
        int lines = 1 + random.nextInt(60);
        for (int i = 0; i < lines; i++) {
            writeLine(mayBeBad && random.nextInt(25) == 0 ? badLine() : goodLine());
        }
        due("load", () -> x.load(), () -> model.load());
    }

    private boolean wipeBoth() {
        x.wipe();
        model.wipe();
        return true;
    }

    private void writeLine(String line) {
        String all = line + "\n";
        for (int at = 0; at < all.length(); at += 8) {
            long packed = Check.pack(all.substring(at, Math.min(at + 8, all.length())));
            due("write " + packed, () -> x.write(packed), () -> model.write(packed));
        }
    }

    private String name() {
        int which = random.nextInt(namesInUse);
        return which < 10 ? String.valueOf((char) ('a' + which)) : Integer.toString(which * 7, 36);
    }

    private String goodLine() {
        int kind = random.nextInt(24);
        if (kind < 14) {
            String strength = random.nextInt(3) == 0 ? "" : " " + (1 + random.nextInt(3));
            return "npd".charAt(random.nextInt(3)) + " " + name() + " " + name() + " " + name() + strength;
        }
        if (kind < 17) {
            return "i " + name();
        }
        if (kind < 21) {
            return "s " + name() + " " + (1 + random.nextInt(3));
        }
        if (kind == 21) {
            return "= z" + Integer.toString(random.nextInt(900), 36) + " " + name();
        }
        return kind == 22 ? "|x" : "  ";
    }

    /** Perhaps bad: words of all sorts in any order. */
    private String badLine() {
        String[] words = {"n", "p", "d", "i", "s", "=", "1", "2", "3", "4", "ab", "abcd", "abcde", "A", "|", "", "=="};
        StringBuilder line = new StringBuilder();
        int count = random.nextInt(7);
        for (int i = 0; i < count; i++) {
            line.append(i == 0 ? "" : " ").append(words[random.nextInt(words.length)]);
        }
        return line.toString();
    }

    private int anyNode() {
        return random.nextInt(20) == 0 ? random.nextInt(30) - 3 : random.nextInt(Math.max(1, model.nodes()));
    }

    private int anyState() {
        return random.nextInt(30) == 0 ? random.nextInt(8) - 3 : random.nextInt(3);
    }

    private void anyCall() {
        int n = anyNode();
        int s = anyState();
        int t = random.nextInt(34) - 2;
        switch (random.nextInt(16)) {
            case 0, 1, 2, 3 -> due("set " + n + " " + s, () -> x.set(n, s), () -> model.set(n, s));
            case 4 -> due("stick " + n + " " + s, () -> x.stick(n, s), () -> model.stick(n, s));
            case 5 -> due("free " + n, () -> x.free(n), () -> model.free(n));
            case 6 -> anyJam(t, random.nextInt(6) - 1);
            case 7, 8 -> due("step", () -> x.step(), () -> model.step());
            case 9 -> due("settle", () -> x.settle(), () -> model.settle());
            case 10, 11, 12 -> askLevel(n, random.nextInt(4) - (random.nextInt(9) == 0 ? 1 : 0));
            case 13 -> askGroup(n);
            case 14 -> askChange(random.nextInt(36) - 2);
            default -> seldomCall();
        }
    }

    private void anyJam(int t, int how) {
        due("jam " + t + " " + how, () -> x.jam(t, how), () -> model.jam(t, how));
        askTransistor(t);
    }

    private void askTransistor(int t) {
        due("conducts " + t, () -> x.conducts(t), () -> model.conducts(t));
    }

    private void askGroup(int n) {
        due("group " + n, () -> x.group(n), () -> model.group(n));
    }

    private void askLevel(int n, int which) {
        due("level " + n + " " + which, () -> x.level(n, which), () -> model.level(n, which));
    }

    private void askChange(int k) {
        due("change " + k, () -> x.change(k), () -> model.change(k));
    }

    private void seldomCall() {
        int limit = random.nextInt(random.nextBoolean() ? 6 : 54) - 1;
        switch (random.nextInt(8)) {
            case 0 -> due("load", () -> x.load(), () -> model.load());
            case 1 -> writeNetwork();
            case 2, 3 -> due("limit " + limit, () -> x.limit(limit), () -> model.limit(limit));
            case 4 -> {
                long any = random.nextLong() & 0x7F7F7F7F7F7F7F7FL;
                due("write " + any, () -> x.write(any), () -> model.write(any));
            }
            case 5 -> due("steps", () -> x.steps(), () -> model.steps());
            default -> {
                long name = Check.pack(name());
                due("node " + name, () -> x.node(name), () -> model.node(name));
            }
        }
    }

    private void askAll() {
        due("nodes", () -> x.nodes(), () -> model.nodes());
        due("steps", () -> x.steps(), () -> model.steps());
        for (int n = -1; n <= model.nodes(); n++) {
            askNode(n);
        }
        for (int t = -1; t <= 30; t++) {
            askTransistor(t);
        }
        for (int k = 0; k <= 32; k++) {
            askChange(k);
        }
    }

    private void askNode(int n) {
        due("state " + n, () -> x.state(n), () -> model.state(n));
        askGroup(n);
        askLevel(n, 0);
        askLevel(n, 1);
        askLevel(n, 2);
    }
}
