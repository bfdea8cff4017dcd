/** Works out networks of switches; the numbered promises that it keeps stand in ../shared/DOC.md. */
public final class SwitchLevels {
    public static final int NONE = -1;

    private static final int MOST_CHARACTERS = 480;
    private static final int MOST_NODES = 24;
    private static final int MOST_TRANSISTORS = 30;
    private static final int MOST_NAMES = 40;
    private static final int MOST_WORDS = 5;
    private static final int KEPT_CHANGES = 32;

    private static final int FIRST_LIMIT = 20;
    private static final int MOST_LIMIT = 50;

    private static final int UNKNOWN = 2;

    private static final int OFF = 0;
    private static final int ON = 1;
    private static final int UNSURE = 2;
    private static final int NOT_JAMMED = 3;

    private static final int FIRST_SIZE = 2;
    private static final int FIRST_STRENGTH = 2;
    private static final int STRENGTH_ABOVE_SIZES = 3;
    private static final int LED_LEVEL = 7;

    private static final int FIRM = 0;
    private static final int HIGH = 1;
    private static final int LOW = 2;

    private final Text text;
    private final LineReader reader;
    private final Levels levels;
    private final Groups groups;
    private final Changes changes;
    private Network network;
    private Network spare;
    private int mostSteps;
    private int stepsMade;

    public SwitchLevels() {
        text = new Text();
        network = new Network();
        spare = new Network();
        reader = new LineReader(text, spare);
        levels = new Levels();
        groups = new Groups();
        changes = new Changes();
        mostSteps = FIRST_LIMIT;
        stepsMade = 0;
    }

    public boolean write(long characters) {
        return text.append(characters);
    }

    public void wipe() {
        text.clear();
    }

    public int load() {
        // Read beside the network in use, which a bad line must leave as it is.
        int badLine = reader.readInto(spare);
        if (badLine != 0) {
            return -badLine;
        }
        Network old = network;
        network = spare;
        spare = old;
        stepsMade = 0;
        changes.clear();
        return network.transistorCount;
    }

    public int nodes() {
        return network.nodeCount;
    }

    public int node(long name) {
        return network.nodeNamed(name);
    }

    public boolean set(int n, int state) {
        if (!network.hasNode(n) || network.isStuck[n] || !isState(state)) {
            return false;
        }
        network.stateOf[n] = state;
        return true;
    }

    public boolean stick(int n, int state) {
        if (!network.hasNode(n) || network.isInput[n] || !isState(state)) {
            return false;
        }
        network.isStuck[n] = true;
        network.stateOf[n] = state;
        return true;
    }

    public boolean free(int n) {
        if (!network.hasNode(n) || !network.isStuck[n]) {
            return false;
        }
        network.isStuck[n] = false;
        return true;
    }

    public boolean jam(int t, int how) {
        if (!network.hasTransistor(t) || how < OFF || how > NOT_JAMMED) {
            return false;
        }
        network.jamOf[t] = how;
        return true;
    }

    public boolean limit(int n) {
        if (n < 1 || n > MOST_LIMIT) {
            return false;
        }
        mostSteps = n;
        return true;
    }

    public int step() {
        return makeStep(false);
    }

    public int settle() {
        int made = 0;
        boolean moving = true;
        while (moving && made < mostSteps) {
            moving = makeStep(false) > 0;
            made++;
        }
        // Each further step but the last turns a known state unknown, so there are no more than the nodes and one.
        for (int further = 0; moving && further <= MOST_NODES; further++) {
            moving = makeStep(true) > 0;
            made++;
        }
        return made;
    }

    public int steps() {
        return stepsMade;
    }

    public int state(int n) {
        return network.hasNode(n) ? network.stateOf[n] : NONE;
    }

    public int level(int n, int which) {
        if (!network.hasNode(n) || which < FIRM || which > LOW) {
            return NONE;
        }
        levels.workOut(network);
        if (which == FIRM) {
            return levels.firm[n];
        }
        return which == HIGH ? levels.high[n] : levels.low[n];
    }

    public int group(int n) {
        if (!network.hasNode(n) || network.isLed(n)) {
            return NONE;
        }
        groups.workOut(network);
        return groups.leastOf[n];
    }

    public int conducts(int t) {
        return network.hasTransistor(t) ? network.conduction(t) : NONE;
    }

    public int change(int k) {
        return changes.fromLatest(k);
    }

    private static boolean isState(int state) {
        return state >= 0 && state <= UNKNOWN;
    }

    /** Answers how many states changed; if damped, a node that would change becomes unknown instead. */
    private int makeStep(boolean damped) {
        // All levels are worked out before the first state changes, since the nodes change all at once.
        levels.workOut(network);
        stepsMade++;
        int changed = 0;
        for (int n = 0; n < network.nodeCount; n++) {
            int before = network.stateOf[n];
            int after = network.isLed(n) ? before : levels.comesTo(n);
            if (damped && after != before) {
                after = UNKNOWN;
            }
            if (after != before) {
                network.stateOf[n] = after;
                changes.note(stepsMade, n, after);
                changed++;
            }
        }
        return changed;
    }

    /** The text that is written bit by bit and then loaded. */
    private static final class Text {
        private static final int BYTES_IN_LONG = 8;

        final char[] characters = new char[MOST_CHARACTERS];
        int length = 0;

        void clear() {
            length = 0;
        }

        boolean append(long packed) {
            int added = countAllowed(packed);
            if (added == NONE || length + added > MOST_CHARACTERS) {
                return false;
            }
            for (int i = 0; i < BYTES_IN_LONG; i++) {
                int c = byteAt(packed, i);
                if (c != 0 && length < MOST_CHARACTERS) {
                    characters[length] = (char) c;
                    length++;
                }
            }
            return true;
        }

        /** Answers how many characters there are, NONE if one of them may not stand in a text. */
        private static int countAllowed(long packed) {
            int count = 0;
            for (int i = 0; i < BYTES_IN_LONG; i++) {
                int c = byteAt(packed, i);
                if (c != 0) {
                    if (!isAllowed(c)) {
                        return NONE;
                    }
                    count++;
                }
            }
            return count;
        }

        private static int byteAt(long packed, int i) {
            return (int) (packed >>> (8 * i)) & 0xFF;
        }

        private static boolean isAllowed(int c) {
            return c == '\n' || (c >= ' ' && c <= '~');
        }
    }

    /** Reads a text, line by line and word by word, into a network. */
    private static final class LineReader {
        private static final long NO_NAME = 0;
        private static final int LONGEST_NAME = 4;

        private final int[] wordStart = new int[MOST_WORDS];
        private final int[] wordEnd = new int[MOST_WORDS];
        private int wordCount = 0;
        private final Text text;
        private final char[] characters;
        private Network network;

        LineReader(Text text, Network network) {
            this.text = text;
            this.characters = text.characters;
            this.network = network;
        }

        /** Answers the number of the first bad line, from 1; 0 if there is none. */
        int readInto(Network target) {
            network = target;
            network.clear();
            int line = 1;
            int start = 0;
            for (int at = 0; at <= text.length; at++) {
                if (at == text.length || characters[at] == '\n') {
                    if (!readLine(start, at)) {
                        return line;
                    }
                    line++;
                    start = at + 1;
                }
            }
            return 0;
        }

        private boolean readLine(int start, int end) {
            if (start < end && characters[start] == '|') {
                return true;
            }
            if (!splitWords(start, end)) {
                return false;
            }
            if (wordCount == 0) {
                return true;
            }
            int kind = onlyCharacter(0);
            switch (kind) {
                case 'n':
                case 'p':
                case 'd':
                    return readTransistor(kind);
                case 'i':
                    return readInput();
                case 's':
                    return readSize();
                case '=':
                    return readOtherName();
                default:
                    return false;
            }
        }

        /** False if there are more words than any line may have. */
        private boolean splitWords(int start, int end) {
            wordCount = 0;
            boolean inWord = false;
            for (int at = start; at < end; at++) {
                boolean blank = characters[at] == ' ';
                if (!blank && !inWord) {
                    if (wordCount == MOST_WORDS) {
                        return false;
                    }
                    wordStart[wordCount] = at;
                    wordCount++;
                }
                if (!blank) {
                    wordEnd[wordCount - 1] = at + 1;
                }
                inWord = !blank;
            }
            return true;
        }

        private boolean readTransistor(int kind) {
            if (wordCount != 4 && wordCount != 5) {
                return false;
            }
            int strength = wordCount == 5 ? oneToThree(4) : FIRST_STRENGTH;
            int gate = nodeOfWord(1);
            int source = nodeOfWord(2);
            int drain = nodeOfWord(3);
            if (strength == NONE || gate == NONE || source == NONE || drain == NONE) {
                return false;
            }
            return network.addTransistor(kind, gate, source, drain, strength);
        }

        private boolean readInput() {
            int n = wordCount == 2 ? nodeOfWord(1) : NONE;
            if (n == NONE) {
                return false;
            }
            network.isInput[n] = true;
            return true;
        }

        private boolean readSize() {
            if (wordCount != 3) {
                return false;
            }
            int size = oneToThree(2);
            int n = nodeOfWord(1);
            if (size == NONE || n == NONE) {
                return false;
            }
            network.sizeOf[n] = size;
            return true;
        }

        private boolean readOtherName() {
            if (wordCount != 3) {
                return false;
            }
            long other = nameOfWord(1);
            // Looked up before the second name makes its node; the two being alike is a case of its own.
            if (other == NO_NAME || network.nodeNamed(other) != NONE || other == nameOfWord(2)) {
                return false;
            }
            int n = nodeOfWord(2);
            return n != NONE && network.addName(other, n);
        }

        /** The word's character if it has one alone, else a blank, which no word has. */
        private int onlyCharacter(int word) {
            int start = wordStart[word];
            return wordEnd[word] - start == 1 ? characters[start] : ' ';
        }

        private int oneToThree(int word) {
            int c = onlyCharacter(word);
            return c >= '1' && c <= '3' ? c - '0' : NONE;
        }

        private int nodeOfWord(int word) {
            long name = nameOfWord(word);
            return name == NO_NAME ? NONE : network.knownOrNewNode(name);
        }

        /** Packs a name as callers give it: the first character in the lowest byte. */
        private long nameOfWord(int word) {
            int start = wordStart[word];
            int length = wordEnd[word] - start;
            if (length > LONGEST_NAME) {
                return NO_NAME;
            }
            long name = NO_NAME;
            for (int i = 0; i < length; i++) {
                char c = characters[start + i];
                if (!isNameCharacter(c)) {
                    return NO_NAME;
                }
                name |= (long) c << (8 * i);
            }
            return name;
        }

        private static boolean isNameCharacter(char c) {
            return (c >= 'a' && c <= 'z') || (c >= '0' && c <= '9');
        }
    }

    /** The nodes, names and transistors, with the states and faults that they have. */
    private static final class Network {
        int nodeCount = 0;
        final boolean[] isInput = new boolean[MOST_NODES];
        final boolean[] isStuck = new boolean[MOST_NODES];
        final int[] sizeOf = new int[MOST_NODES];
        final int[] stateOf = new int[MOST_NODES];

        int transistorCount = 0;
        final int[] kindOf = new int[MOST_TRANSISTORS];
        final int[] gateOf = new int[MOST_TRANSISTORS];
        final int[] sourceOf = new int[MOST_TRANSISTORS];
        final int[] drainOf = new int[MOST_TRANSISTORS];
        final int[] strengthOf = new int[MOST_TRANSISTORS];
        final int[] jamOf = new int[MOST_TRANSISTORS];

        private int nameCount = 0;
        private final long[] names = new long[MOST_NAMES];
        private final int[] nodeOfName = new int[MOST_NAMES];

        void clear() {
            nodeCount = 0;
            transistorCount = 0;
            nameCount = 0;
        }

        boolean hasNode(int n) {
            return n >= 0 && n < nodeCount;
        }

        boolean hasTransistor(int t) {
            return t >= 0 && t < transistorCount;
        }

        boolean isLed(int n) {
            return isInput[n] || isStuck[n];
        }

        /** The codes of jamming are those of conducting, so a jam is answered as it is. */
        int conduction(int t) {
            if (jamOf[t] != NOT_JAMMED) {
                return jamOf[t];
            }
            if (kindOf[t] == 'd') {
                return ON;
            }
            int gate = stateOf[gateOf[t]];
            if (gate == UNKNOWN) {
                return UNSURE;
            }
            boolean conducting = kindOf[t] == 'n' ? gate == 1 : gate == 0;
            return conducting ? ON : OFF;
        }

        int nodeNamed(long name) {
            for (int i = 0; i < nameCount; i++) {
                if (names[i] == name) {
                    return nodeOfName[i];
                }
            }
            return NONE;
        }

        /** NONE if a node would have to be made and there is no room for it or its name. */
        int knownOrNewNode(long name) {
            int known = nodeNamed(name);
            if (known != NONE) {
                return known;
            }
            if (nodeCount >= MOST_NODES || !addName(name, nodeCount)) {
                return NONE;
            }
            int n = nodeCount;
            isInput[n] = false;
            isStuck[n] = false;
            sizeOf[n] = FIRST_SIZE;
            stateOf[n] = UNKNOWN;
            nodeCount++;
            return n;
        }

        boolean addName(long name, int n) {
            if (nameCount >= MOST_NAMES) {
                return false;
            }
            names[nameCount] = name;
            nodeOfName[nameCount] = n;
            nameCount++;
            return true;
        }

        boolean addTransistor(int kind, int gate, int source, int drain, int strength) {
            if (transistorCount >= MOST_TRANSISTORS) {
                return false;
            }
            int t = transistorCount;
            kindOf[t] = kind;
            gateOf[t] = gate;
            sourceOf[t] = source;
            drainOf[t] = drain;
            strengthOf[t] = strength;
            jamOf[t] = NOT_JAMMED;
            transistorCount++;
            return true;
        }
    }

    /** The firm, high and low levels, worked out from the states that a network has. */
    private static final class Levels {
        // A round that is not the last raises a level, and each of them can rise no further than a led one's.
        private static final int MOST_ROUNDS = MOST_NODES * LED_LEVEL + 1;

        final int[] firm = new int[MOST_NODES];
        final int[] high = new int[MOST_NODES];
        final int[] low = new int[MOST_NODES];
        private final int[] noFloor = new int[MOST_NODES];
        private final int[] conduction = new int[MOST_TRANSISTORS];

        void workOut(Network network) {
            for (int t = 0; t < network.transistorCount; t++) {
                conduction[t] = network.conduction(t);
            }
            startFirm(network);
            spread(network, firm, noFloor, false);
            startSide(network, high, 0);
            spread(network, high, firm, true);
            startSide(network, low, 1);
            spread(network, low, firm, true);
        }

        int comesTo(int n) {
            if (low[n] == 0) {
                return 1;
            }
            return high[n] == 0 ? 0 : UNKNOWN;
        }

        private void startFirm(Network network) {
            for (int n = 0; n < network.nodeCount; n++) {
                firm[n] = network.isLed(n) ? LED_LEVEL : network.sizeOf[n];
            }
        }

        /** A side, high or low, begins at the nodes whose state is not the one against it. */
        private void startSide(Network network, int[] side, int against) {
            for (int n = 0; n < network.nodeCount; n++) {
                int own = network.isLed(n) ? LED_LEVEL : network.sizeOf[n];
                boolean counts = network.stateOf[n] != against && own >= firm[n];
                side[n] = counts ? own : 0;
            }
        }

        /** Only ever raises levels, from their least ones on, so that the least that fit together come out. */
        private void spread(Network network, int[] row, int[] floor, boolean alsoUnsure) {
            boolean rising = true;
            for (int round = 0; rising && round < MOST_ROUNDS; round++) {
                rising = false;
                for (int t = 0; t < network.transistorCount; t++) {
                    if (conduction[t] == ON || (alsoUnsure && conduction[t] == UNSURE)) {
                        int source = network.sourceOf[t];
                        int drain = network.drainOf[t];
                        int most = network.strengthOf[t] + STRENGTH_ABOVE_SIZES;
                        boolean sourceRose = raise(network, row, floor, source, Math.min(most, row[drain]));
                        boolean drainRose = raise(network, row, floor, drain, Math.min(most, row[source]));
                        rising = rising || sourceRose || drainRose;
                    }
                }
            }
        }

        private static boolean raise(Network network, int[] row, int[] floor, int n, int offered) {
            if (network.isLed(n) || offered <= row[n] || offered < floor[n]) {
                return false;
            }
            row[n] = offered;
            return true;
        }
    }

    /** For each node that is not led, the least number in its group. */
    private static final class Groups {
        final int[] leastOf = new int[MOST_NODES];

        void workOut(Network network) {
            for (int n = 0; n < network.nodeCount; n++) {
                leastOf[n] = n;
            }
            // A least number needs no more rounds than there are nodes to reach all of its group.
            boolean falling = true;
            for (int round = 0; falling && round < MOST_NODES; round++) {
                falling = lowerOnce(network);
            }
        }

        private boolean lowerOnce(Network network) {
            boolean fell = false;
            for (int t = 0; t < network.transistorCount; t++) {
                int source = network.sourceOf[t];
                int drain = network.drainOf[t];
                if (!network.isLed(source) && !network.isLed(drain) && leastOf[source] != leastOf[drain]) {
                    int least = Math.min(leastOf[source], leastOf[drain]);
                    leastOf[source] = least;
                    leastOf[drain] = least;
                    fell = true;
                }
            }
            return fell;
        }
    }

    /** The latest changes; older ones can't be asked for, so their places are used again. */
    private static final class Changes {
        private final int[] rows = new int[KEPT_CHANGES];
        private int next = 0;
        private int count = 0;

        void clear() {
            count = 0;
        }

        void note(int stepNumber, int n, int newState) {
            rows[next] = 128 * stepNumber + 4 * n + newState;
            next = (next + 1) % KEPT_CHANGES;
            count = Math.min(count + 1, KEPT_CHANGES);
        }

        int fromLatest(int k) {
            if (k < 0 || k >= count) {
                return NONE;
            }
            return rows[(next + KEPT_CHANGES - 1 - k) % KEPT_CHANGES];
        }
    }
}
