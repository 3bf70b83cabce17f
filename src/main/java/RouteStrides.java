/**
 * A table of ways by longest beginnings, with the nodes by strides that its addresses need.
 *
 * All rows are made in the constructor and used again, so that no call makes an object.
 * What follows from the table (spans, nodes, the fewest rules ..) is worked out when a call
 * asks for it, and kept until the table changes.
 */
public final class RouteStrides {
    public static final int NONE = -1;

    // Answers below NONE.
    private static final int MISSING = -2;
    private static final int HAS_ALREADY = -2;
    private static final int NO_ROOM = -3;
    private static final int LEADS_ON = -2;
    private static final int NO_SLOT = -3;
    private static final int NEEDS_NONE = -2;
    private static final int FEWEST_ALREADY = -3;
    private static final int FAULTY = -2;

    private static final int BITS = 32;
    private static final long ALL = 1L << 32;
    private static final long LOW = ALL - 1;

    private static final int MOST_RULES = 60;
    private static final int MOST_GATE = 99;
    private static final int MOST_PORT = 9;
    private static final int PORTS = 10;

    private static final int LEAST_STRIDE = 2;
    private static final int MOST_STRIDE = 6;
    private static final int LEAST_LEVELS = 6;
    private static final int MOST_LEVELS = 16;
    private static final int FIRST_LEVELS = 8;
    private static final int FIRST_STRIDE = 4;

    // Each rule parts what lies around it in two places at most.
    private static final int MOST_SPANS = 2 * MOST_RULES + 1;
    // A node but the first one lies around a rule's beginning, so each level has one a rule at most.
    private static final int MOST_NODES = 1 + MOST_RULES * (MOST_LEVELS - 1);
    // A node stores one way, and one more at most for each end of a span inside it.
    private static final int MOST_STORED = MOST_NODES + MOST_LEVELS * MOST_SPANS;
    // Beginnings that are parted (of each length one a rule at most), and both halves of each.
    private static final int MOST_PARTS = 2 * (1 + MOST_RULES * (BITS - 1)) + 1;
    // A range has two beginnings of each length at most.
    private static final int MOST_PIECES = 2 * BITS;

    private static final int MOST_ACTS = 10;
    private static final int SHELVES = 2;

    // What has been worked out of the table that is there now.
    private static final int SPANS_KNOWN = 1;
    private static final int NODES_KNOWN = 2;
    private static final int KINDS_KNOWN = 4;
    private static final int FEWEST_KNOWN = 8;
    private static final int COSTS_KNOWN = 16;

    private final Tape tape = new Tape();
    private final Table now = new Table();
    private final Table trial = new Table();
    private final Table[] past = new Table[MOST_ACTS];
    private final Table[] shelves = new Table[SHELVES];
    private int acts;
    private int kept;
    // NONE: the last act has not been held against what was ahead of it so far.
    private int touched;
    private int known;

    private final Spans spans = new Spans();
    private final Spans otherSpans = new Spans();
    private final Nodes nodes = new Nodes();
    private final Nodes otherNodes = new Nodes();
    private final Kinds kinds = new Kinds();
    private final Fewest few = new Fewest();
    private final Costs costs = new Costs();
    private final Pieces pieces = new Pieces();

    public RouteStrides() {
        for (int i = 0; i < MOST_ACTS; i++) {
            past[i] = new Table();
        }
        for (int i = 0; i < SHELVES; i++) {
            shelves[i] = new Table();
        }
    }

    // ---- the tape

    public int feed(int a, int b, int c, int d, int e) {
        if (!tape.hasRoom()) {
            return NONE;
        }
        tape.append(a);
        tape.append(b);
        tape.append(c);
        tape.append(d);
        tape.append(e);
        return tape.size;
    }

    public int end(int n) {
        if (n < 0 || n > tape.size) {
            return NONE;
        }
        tape.size = n;
        return n;
    }

    public int tell() {
        int fault = tape.readInto(trial);
        tape.size = 0;
        if (fault != 0) {
            return FAULTY - fault;
        }
        now.copyFrom(trial);
        forgetActs();
        return now.rules;
    }

    // ---- acts

    public int add(int value, int length, int gate, int port) {
        if (!isBeginning(value, length) || !isWay(gate, port)) {
            return NONE;
        }
        int key = keyOf(gate, port);
        int state = stateOf(value, length, key);
        if (state != 0) {
            return state;
        }
        beginAct();
        return now.put(unsigned(value), length, key);
    }

    public int withdraw(int value, int length) {
        if (!isBeginning(value, length)) {
            return NONE;
        }
        int at = now.find(unsigned(value), length);
        if (at < 0) {
            return NONE;
        }
        beginAct();
        now.drop(at);
        return now.rules;
    }

    public int range(int from, int to, int gate, int port) {
        if (unsigned(from) > unsigned(to) || !isWay(gate, port)) {
            return NONE;
        }
        int key = keyOf(gate, port);
        pieces.cut(unsigned(from), unsigned(to));
        int others = 0;
        int missing = 0;
        for (int i = 0; i < pieces.size; i++) {
            int at = now.find(pieces.value[i], pieces.length[i]);
            missing += at < 0 ? 1 : 0;
            others += at >= 0 && now.keyOfRule(at) != key ? 1 : 0;
        }
        if (missing + others == 0) {
            return HAS_ALREADY;
        }
        if (now.rules + missing > MOST_RULES) {
            return NO_ROOM;
        }
        beginAct();
        for (int i = 0; i < pieces.size; i++) {
            now.put(pieces.value[i], pieces.length[i], key);
        }
        return pieces.size;
    }

    public int strides(long digits) {
        if (!trial.takeStrides(digits)) {
            return NONE;
        }
        if (now.hasStridesOf(trial)) {
            return HAS_ALREADY;
        }
        beginAct();
        now.copyStrides(trial);
        return now.levels;
    }

    public int gather() {
        seeFewest();
        if (few.hasNone()) {
            return NEEDS_NONE;
        }
        if (now.hasRulesOf(few)) {
            return FEWEST_ALREADY;
        }
        beginAct();
        now.takeRules(few);
        return now.rules;
    }

    public int undo() {
        if (acts <= 0 || acts > MOST_ACTS) {
            return NONE;
        }
        acts--;
        now.copyFrom(past[acts]);
        touched = 0;
        known = 0;
        return acts;
    }

    public int keep(int shelf) {
        if (shelf < 0 || shelf >= SHELVES) {
            return NONE;
        }
        shelves[shelf].copyFrom(now);
        kept |= 1 << shelf;
        return now.rules;
    }

    public int back(int shelf) {
        if (shelf < 0 || shelf >= SHELVES) {
            return NONE;
        }
        if (!isKept(shelf)) {
            return MISSING;
        }
        now.copyFrom(shelves[shelf]);
        forgetActs();
        return now.rules;
    }

    // ---- addresses

    public int look(int address, int what) {
        long at = unsigned(address);
        if (what == 0 || what == 1 || what == 4) {
            return lookAtRules(now.ruleOf(at), what);
        }
        if (what != 2 && what != 3) {
            return NONE;
        }
        seeNodes();
        int gone = nodes.goTo(at);
        return what == 2 ? gone : nodes.placeOf(at);
    }

    public int path(int address, int i) {
        if (i < 0) {
            return NONE;
        }
        seeNodes();
        int gone = nodes.goTo(unsigned(address));
        return i < gone ? nodes.trail[i] : MISSING;
    }

    public int would(int value, int length, int gate, int port) {
        if (!isBeginning(value, length) || !isWay(gate, port)) {
            return NONE;
        }
        int key = keyOf(gate, port);
        int state = stateOf(value, length, key);
        if (state != 0) {
            return state == HAS_ALREADY ? 0 : state;
        }
        trial.copyFrom(now);
        trial.put(unsigned(value), length, key);
        seeNodes();
        return touchedAgainst(trial);
    }

    public int within(int value, int length, int k) {
        if (!isBeginning(value, length) || k < NONE) {
            return NONE;
        }
        long low = unsigned(value);
        int first = now.placeFor(low, length);
        int behind = now.placeFor(low + widthOf(length), 0);
        if (k == NONE) {
            return behind - first;
        }
        return k < behind - first ? first + k : MISSING;
    }

    public long differs(int shelf, int what) {
        if (shelf < 0 || shelf >= SHELVES || !isKept(shelf) || (what != 0 && what != 1)) {
            return NONE;
        }
        seeSpans();
        otherSpans.survey(shelves[shelf]);
        return spans.differing(otherSpans, what == 1);
    }

    // ---- rules and hops

    public int rule(int k, int what) {
        if (k < 0 || k >= now.rules) {
            return what == 0 ? 0 : MISSING;
        }
        switch (what) {
            case 0:
                return (int) now.value[k];
            case 1:
                return now.length[k];
            case 2:
                return now.hopOf[k];
            case 3:
                seeSpans();
                return spans.serving[k] == 0 ? 1 : 0;
            case 4:
                seeSpans();
                return spans.outer[k];
            default:
                return MISSING;
        }
    }

    public long served(int k) {
        if (k < 0 || k >= now.rules) {
            return NONE;
        }
        seeSpans();
        return spans.serving[k];
    }

    public int hop(int hop, int what) {
        if (!now.hasHop(hop)) {
            return NONE;
        }
        switch (what) {
            case 0:
                return now.key[hop] / PORTS;
            case 1:
                return now.key[hop] % PORTS;
            case 2:
                return now.users[hop];
            default:
                return NONE;
        }
    }

    public long reach(int hop) {
        if (hop != NONE && !now.hasHop(hop)) {
            return MISSING;
        }
        seeSpans();
        return spans.addressesWith(hop);
    }

    // ---- nodes

    public long node(int node, int what) {
        seeNodes();
        if (!nodes.has(node)) {
            return what == 0 || what == 1 ? 0 : MISSING;
        }
        switch (what) {
            case 0:
                return nodes.child[node];
            case 1:
                return nodes.run[node];
            case 2:
                return nodes.levelOf[node];
            case 3:
                return nodes.value[node];
            case 4:
                return nodes.storedBy(node);
            case 5:
                return nodes.parent[node];
            default:
                return MISSING;
        }
    }

    public int stored(int node, int i) {
        seeNodes();
        return nodes.storedAt(node, i);
    }

    public int slot(int node, int slot, int what) {
        seeNodes();
        if (!nodes.has(node) || slot < 0 || slot >= nodes.slotsOf(node) || (what != 0 && what != 1)) {
            return NO_SLOT;
        }
        int to = nodes.childAt(node, slot);
        if (what == 0) {
            return to;
        }
        return to >= 0 ? LEADS_ON : nodes.leafHop(node, slot);
    }

    public int alike(int node, int other) {
        seeNodes();
        if (!nodes.has(node) || !nodes.has(other) || nodes.levelOf[node] != nodes.levelOf[other]) {
            return NONE;
        }
        seeKinds();
        return kinds.kind[node] == kinds.kind[other] ? 1 : 0;
    }

    public int level(int level, int what) {
        if (level < 0 || level >= now.levels) {
            return NONE;
        }
        seeNodes();
        switch (what) {
            case 0:
                return now.stride[level];
            case 1:
                return nodes.behindLevel(level) - nodes.startOfLevel(level);
            case 2:
                return nodes.storedIn(nodes.startOfLevel(level), nodes.behindLevel(level));
            case 3:
                seeKinds();
                return kinds.unlikeIn(nodes.startOfLevel(level), nodes.behindLevel(level));
            default:
                return NONE;
        }
    }

    // ---- spans, ranges, the fewest

    public long span(int k, int what) {
        seeSpans();
        if (k < 0 || k >= spans.size) {
            return MISSING;
        }
        switch (what) {
            case 0:
                return spans.first[k];
            case 1:
                return spans.last[k];
            case 2:
                return spans.hopOf[k];
            default:
                return MISSING;
        }
    }

    public long cover(int from, int to, int k, int what) {
        if (unsigned(from) > unsigned(to)) {
            return MISSING;
        }
        pieces.cut(unsigned(from), unsigned(to));
        if (k == NONE && what == 0) {
            return pieces.size;
        }
        return pieces.tellOf(k, what);
    }

    public long own(int hop, int k, int what) {
        if ((hop != NONE && !now.hasHop(hop)) || k < NONE) {
            return MISSING;
        }
        seeSpans();
        int ahead = 0;
        for (int i = 0; i < spans.size; i++) {
            if (spans.hopOf[i] != hop) {
                continue;
            }
            pieces.cut(spans.first[i], spans.last[i]);
            if (k >= ahead && k - ahead < pieces.size) {
                return pieces.tellOf(k - ahead, what);
            }
            ahead += pieces.size;
        }
        return k == NONE && what == 0 ? ahead : MISSING;
    }

    public long best(int m, int what) {
        if (m < LEAST_LEVELS || m > MOST_LEVELS || (what != 0 && what != 1)) {
            return NONE;
        }
        seeCosts();
        int levels = costs.bestLevels(m);
        return what == 0 ? costs.slotsBy(levels) : costs.digitsBy(levels);
    }

    public long fewest(int k, int what) {
        seeFewest();
        if (k == NONE && what == 0) {
            return few.size;
        }
        if (k < 0 || k >= few.size) {
            return MISSING;
        }
        switch (what) {
            case 0:
                return few.length[k];
            case 1:
                return few.value[k];
            case 2:
                return few.hopOf[k];
            default:
                return MISSING;
        }
    }

    public long steps() {
        seeNodes();
        return bitsOfMean(nodes.allSteps());
    }

    public int count(int what) {
        switch (what) {
            case 0:
                return now.rules;
            case 1:
                return now.hops();
            case 2:
                return now.levels;
            case 3:
                seeNodes();
                return nodes.size;
            case 4:
                seeKinds();
                return kinds.unlikeIn(0, nodes.size);
            case 5:
                seeNodes();
                return nodes.storedIn(0, nodes.size);
            case 6:
                seeSpans();
                return spans.size;
            case 7:
                seeSpans();
                return spans.idle(now.rules);
            case 8:
                return touchedByLastAct();
            case 9:
                return acts;
            case 10:
                return tape.size;
            case 11:
                return kept;
            case 12:
                seeNodes();
                return nodes.deepest();
            default:
                return NONE;
        }
    }

    // ---- what the calls share

    private static long unsigned(int bits) {
        return bits & LOW;
    }

    /** How many addresses lie in a beginning of that length. */
    private static long widthOf(int length) {
        return ALL >> length;
    }

    private static boolean isBeginning(int value, int length) {
        return length >= 0 && length <= BITS && (unsigned(value) & (widthOf(length) - 1)) == 0;
    }

    private static boolean isWay(int gate, int port) {
        return gate >= 0 && gate <= MOST_GATE && port >= 0 && port <= MOST_PORT;
    }

    private static int keyOf(int gate, int port) {
        return gate * PORTS + port;
    }

    /** Why a rule can't be told with that way: 0 if it can. */
    private int stateOf(int value, int length, int key) {
        int at = now.find(unsigned(value), length);
        if (at >= 0) {
            return now.keyOfRule(at) == key ? HAS_ALREADY : 0;
        }
        return now.rules >= MOST_RULES ? NO_ROOM : 0;
    }

    private boolean isKept(int shelf) {
        return (kept & (1 << shelf)) != 0;
    }

    private int lookAtRules(int rule, int what) {
        if (rule < 0 || rule >= MOST_RULES) {
            return NONE;
        }
        if (what == 0) {
            return now.hopOf[rule];
        }
        if (what == 1) {
            return rule;
        }
        seeSpans();
        int outer = spans.outer[rule];
        return outer >= 0 && outer < MOST_RULES ? now.hopOf[outer] : NONE;
    }

    private void beginAct() {
        if (acts >= MOST_ACTS) {
            dropOldestAct();
        }
        past[acts].copyFrom(now);
        acts++;
        touched = NONE;
        known = 0;
    }

    private void dropOldestAct() {
        Table oldest = past[0];
        for (int i = 1; i < MOST_ACTS; i++) {
            past[i - 1] = past[i];
        }
        past[MOST_ACTS - 1] = oldest;
        acts = MOST_ACTS - 1;
    }

    private void forgetActs() {
        acts = 0;
        touched = 0;
        known = 0;
    }

    // The table ahead of the last act is the newest that undo could bring back, so the act is
    // held against it only when somebody asks.
    private int touchedByLastAct() {
        if (touched == NONE && acts > 0 && acts <= MOST_ACTS) {
            seeNodes();
            touched = touchedAgainst(past[acts - 1]);
        }
        return touched;
    }

    private int touchedAgainst(Table other) {
        otherSpans.survey(other);
        otherNodes.build(other, otherSpans);
        return nodes.othersThan(otherNodes);
    }

    private void seeSpans() {
        if ((known & SPANS_KNOWN) == 0) {
            spans.survey(now);
            known |= SPANS_KNOWN;
        }
    }

    private void seeNodes() {
        if ((known & NODES_KNOWN) == 0) {
            seeSpans();
            nodes.build(now, spans);
            known |= NODES_KNOWN;
        }
    }

    private void seeKinds() {
        if ((known & KINDS_KNOWN) == 0) {
            seeNodes();
            kinds.find(nodes);
            known |= KINDS_KNOWN;
        }
    }

    private void seeFewest() {
        if ((known & FEWEST_KNOWN) == 0) {
            seeSpans();
            few.seek(spans);
            known |= FEWEST_KNOWN;
        }
    }

    private void seeCosts() {
        if ((known & COSTS_KNOWN) == 0) {
            seeSpans();
            costs.weigh(spans);
            known |= COSTS_KNOWN;
        }
    }

    /** The bits of the double all / 2^32; all is at least 2^32 and below 2^53, so it is exact. */
    private static long bitsOfMean(long all) {
        int top = 0;
        for (int i = 1; i < 53; i++) {
            if ((all >> i) != 0) {
                top = i;
            }
        }
        long exponent = top - BITS + 1023;
        long fraction = (all << (52 - top)) & ((1L << 52) - 1);
        return (exponent << 52) | fraction;
    }

    /** Rules in their order, the hops that they have, and strides. */
    private static final class Table {
        int rules;
        final long[] value = new long[MOST_RULES];
        final int[] length = new int[MOST_RULES];
        final int[] hopOf = new int[MOST_RULES];
        // A hop is there while users of it is above 0; key has its gate and port in one number.
        final int[] key = new int[MOST_RULES];
        final int[] users = new int[MOST_RULES];
        int levels;
        final int[] stride = new int[MOST_LEVELS];

        Table() {
            takeFirstStrides();
        }

        private void takeFirstStrides() {
            levels = FIRST_LEVELS;
            for (int i = 0; i < FIRST_LEVELS; i++) {
                stride[i] = FIRST_STRIDE;
            }
        }

        void clear() {
            rules = 0;
            for (int i = 0; i < MOST_RULES; i++) {
                users[i] = 0;
            }
            takeFirstStrides();
        }

        void copyFrom(Table other) {
            rules = other.rules;
            for (int i = 0; i < MOST_RULES; i++) {
                value[i] = other.value[i];
                length[i] = other.length[i];
                hopOf[i] = other.hopOf[i];
                key[i] = other.key[i];
                users[i] = other.users[i];
            }
            copyStrides(other);
        }

        void copyStrides(Table other) {
            levels = other.levels;
            for (int i = 0; i < MOST_LEVELS; i++) {
                stride[i] = other.stride[i];
            }
        }

        boolean hasStridesOf(Table other) {
            if (levels != other.levels) {
                return false;
            }
            for (int i = 0; i < levels && i < MOST_LEVELS; i++) {
                if (stride[i] != other.stride[i]) {
                    return false;
                }
            }
            return true;
        }

        /** Takes strides from a number's digits; what they are is open if the number has none. */
        boolean takeStrides(long digits) {
            long left = digits;
            int sum = 0;
            levels = 0;
            for (int i = 0; i < MOST_LEVELS && left > 0; i++) {
                int digit = (int) (left % 10);
                if (digit < LEAST_STRIDE || digit > MOST_STRIDE) {
                    return false;
                }
                stride[i] = digit;
                sum += digit;
                levels = i + 1;
                left /= 10;
            }
            if (left != 0 || sum != BITS) {
                return false;
            }
            turnStrides();
            return true;
        }

        private void turnStrides() {
            for (int i = 0, j = levels - 1; i < j && j < MOST_LEVELS; i++, j--) {
                int held = stride[i];
                stride[i] = stride[j];
                stride[j] = held;
            }
        }

        /** How many rules stand ahead of a beginning. */
        int placeFor(long low, int len) {
            int at = 0;
            while (at < rules && at < MOST_RULES
                    && (value[at] < low || (value[at] == low && length[at] < len))) {
                at++;
            }
            return at;
        }

        int find(long low, int len) {
            int at = placeFor(low, len);
            return at < rules && at < MOST_RULES && value[at] == low && length[at] == len ? at : NONE;
        }

        boolean hasHop(int hop) {
            return hop >= 0 && hop < MOST_RULES && users[hop] > 0;
        }

        int hops() {
            int there = 0;
            for (int i = 0; i < MOST_RULES; i++) {
                there += users[i] > 0 ? 1 : 0;
            }
            return there;
        }

        int keyOfRule(int at) {
            int hop = at >= 0 && at < rules && at < MOST_RULES ? hopOf[at] : NONE;
            return hasHop(hop) ? key[hop] : NONE;
        }

        /** The rule of the greatest length in which an address lies. */
        int ruleOf(long address) {
            int longest = NONE;
            for (int i = 0; i < rules && i < MOST_RULES; i++) {
                // Of rules around one address the longer one stands behind the shorter one.
                if (value[i] <= address && address < value[i] + widthOf(length[i])) {
                    longest = i;
                }
            }
            return longest;
        }

        /** Tells a rule, new or with another hop: its hop; NONE if there is no room. */
        int put(long low, int len, int newKey) {
            int at = find(low, len);
            if (at >= 0 && keyOfRule(at) == newKey) {
                return hopOf[at];
            }
            if (at >= 0) {
                // The old hop goes first, so that its number may be free for the new one.
                release(hopOf[at]);
            } else {
                at = makeRoom(low, len);
            }
            if (at < 0) {
                return NONE;
            }
            hopOf[at] = takeHop(newKey);
            return hopOf[at];
        }

        private int makeRoom(long low, int len) {
            if (rules >= MOST_RULES) {
                return NONE;
            }
            int at = placeFor(low, len);
            for (int i = rules; i > at; i--) {
                value[i] = value[i - 1];
                length[i] = length[i - 1];
                hopOf[i] = hopOf[i - 1];
            }
            value[at] = low;
            length[at] = len;
            rules++;
            return at;
        }

        void drop(int at) {
            if (at < 0 || at >= rules || at >= MOST_RULES) {
                return;
            }
            release(hopOf[at]);
            for (int i = at + 1; i < rules && i < MOST_RULES; i++) {
                value[i - 1] = value[i];
                length[i - 1] = length[i];
                hopOf[i - 1] = hopOf[i];
            }
            rules--;
        }

        private void release(int hop) {
            if (hasHop(hop)) {
                users[hop]--;
            }
        }

        private int takeHop(int newKey) {
            int free = NONE;
            for (int i = MOST_RULES - 1; i >= 0; i--) {
                if (users[i] > 0 && key[i] == newKey) {
                    users[i]++;
                    return i;
                }
                if (users[i] == 0) {
                    free = i;
                }
            }
            if (free >= 0) {
                key[free] = newKey;
                users[free] = 1;
            }
            return free;
        }

        boolean hasRulesOf(Fewest few) {
            if (rules != few.size) {
                return false;
            }
            for (int i = 0; i < rules && i < MOST_RULES; i++) {
                if (value[i] != few.value[i] || length[i] != few.length[i] || hopOf[i] != few.hopOf[i]) {
                    return false;
                }
            }
            return true;
        }

        /** The rules are others, of hops that are there; hops that no rule has are gone. */
        void takeRules(Fewest few) {
            for (int i = 0; i < MOST_RULES; i++) {
                users[i] = 0;
            }
            rules = few.size;
            for (int i = 0; i < rules && i < MOST_RULES; i++) {
                value[i] = few.value[i];
                length[i] = few.length[i];
                int hop = few.hopOf[i];
                hopOf[i] = hop;
                if (hop >= 0 && hop < MOST_RULES) {
                    users[hop]++;
                }
            }
        }
    }

    /** Bytes that are told, and the reading of them as a text. */
    private static final class Tape {
        private static final int MOST_BYTES = 400;
        private static final int FEED_BYTES = 20;
        private static final int ENOUGH = 1000;
        private static final int WRONG_SIGN = 1;
        private static final int WRONG_NUMBER = 2;
        private static final int WRONG_LENGTH = 3;
        private static final String STRIDES = "strides";

        int size;
        private final int[] bytes = new int[MOST_BYTES];
        private int at;
        // 0 as long as nothing was wrong.
        private int fault;

        boolean hasRoom() {
            return size + FEED_BYTES <= MOST_BYTES;
        }

        void append(int four) {
            for (int shift = 24; shift >= 0 && size < MOST_BYTES; shift -= 8) {
                bytes[size] = (four >> shift) & 255;
                size++;
            }
        }

        /** Reads the text into a table: its fault, 0 without; with one the table is open. */
        int readInto(Table into) {
            into.clear();
            at = 0;
            fault = 0;
            boolean more = true;
            for (int i = 0; i <= MOST_BYTES && more && fault == 0; i++) {
                readLine(into);
                more = fault == 0 && !atEnd();
                if (more) {
                    expect(';');
                }
            }
            return fault;
        }

        private void readLine(Table into) {
            int sign = nextSign();
            if (isDigit(sign)) {
                readRule(into);
            } else if (isStrides()) {
                at += STRIDES.length();
                readStrides(into);
            } else {
                fail(at, WRONG_SIGN);
            }
        }

        private void readRule(Table into) {
            long low = 0;
            for (int i = 0; i < 4; i++) {
                if (i > 0) {
                    expect('.');
                }
                low = (low << 8) | readNumber(255);
            }
            expect('/');
            nextSign();
            int lengthAt = at;
            int len = readNumber(BITS);
            if (fault == 0 && (low & (widthOf(len) - 1)) != 0) {
                fail(lengthAt, WRONG_LENGTH);
            }
            expect('=');
            int gate = readNumber(MOST_GATE);
            int port = readNumber(MOST_PORT);
            if (fault == 0) {
                into.put(low, len, keyOf(gate, port));
            }
        }

        private void readStrides(Table into) {
            int sum = 0;
            int found = 0;
            for (int i = 0; i < MOST_BYTES && fault == 0 && isDigit(nextSign()); i++) {
                int numberAt = at;
                int number = readNumber(MOST_STRIDE);
                if (fault == 0 && (number < LEAST_STRIDE || sum + number > BITS || found >= MOST_LEVELS)) {
                    fail(numberAt, WRONG_NUMBER);
                }
                if (fault == 0) {
                    into.stride[found] = number;
                    found++;
                    sum += number;
                }
            }
            if (sum != BITS) {
                fail(at, WRONG_SIGN);
            }
            into.levels = found;
        }

        /** The number that must stand next, 0 with a fault. */
        private int readNumber(int most) {
            int sign = nextSign();
            if (!isDigit(sign)) {
                fail(at, WRONG_SIGN);
            }
            if (fault != 0) {
                return 0;
            }
            int numberAt = at;
            int number = 0;
            while (at < size && isDigit(signAt(at))) {
                number = Math.min(ENOUGH, number * 10 + signAt(at) - '0');
                at++;
            }
            if (number > most) {
                fail(numberAt, WRONG_NUMBER);
                return 0;
            }
            return number;
        }

        private void expect(char sign) {
            if (fault != 0) {
                return;
            }
            if (nextSign() != sign) {
                fail(at, WRONG_SIGN);
            } else {
                at++;
            }
        }

        private boolean isStrides() {
            for (int i = 0; i < STRIDES.length(); i++) {
                if (signAt(at + i) != STRIDES.charAt(i)) {
                    return false;
                }
            }
            int behind = signAt(at + STRIDES.length());
            return behind < 'a' || behind > 'z';
        }

        private boolean atEnd() {
            return nextSign() == NONE;
        }

        /** Goes on to the next byte that is no blank: that byte, NONE at the end. */
        private int nextSign() {
            while (at < size && signAt(at) == ' ') {
                at++;
            }
            return signAt(at);
        }

        private int signAt(int place) {
            return place >= 0 && place < size && place < MOST_BYTES ? bytes[place] : NONE;
        }

        private static boolean isDigit(int sign) {
            return sign >= '0' && sign <= '9';
        }

        private void fail(int place, int kind) {
            if (fault == 0) {
                fault = 8 * place + kind;
            }
        }
    }

    /** Rows of addresses of one hop, and what each rule has of all addresses. */
    private static final class Spans {
        int size;
        final long[] first = new long[MOST_SPANS];
        final long[] last = new long[MOST_SPANS];
        final int[] hopOf = new int[MOST_SPANS];
        final int[] keyOfSpan = new int[MOST_SPANS];
        final long[] serving = new long[MOST_RULES];
        // Of the rules around a rule the longest one.
        final int[] outer = new int[MOST_RULES];
        private final int[] open = new int[BITS + 1];
        private int depth;
        private long next;

        void survey(Table table) {
            size = 0;
            depth = 0;
            next = 0;
            for (int i = 0; i < table.rules && i < MOST_RULES; i++) {
                serving[i] = 0;
                closeAhead(table.value[i], table);
                outer[i] = innermost();
                emit(outer[i], table.value[i] - 1, table);
                if (depth <= BITS) {
                    open[depth] = i;
                    depth++;
                }
            }
            closeAhead(ALL, table);
            emit(NONE, LOW, table);
        }

        private int innermost() {
            return depth > 0 && depth <= BITS + 1 ? open[depth - 1] : NONE;
        }

        /** Rules that end ahead of an address have what is left of them. */
        private void closeAhead(long address, Table table) {
            while (depth > 0) {
                int rule = innermost();
                if (rule < 0 || rule >= MOST_RULES) {
                    return;
                }
                long end = table.value[rule] + widthOf(table.length[rule]) - 1;
                if (end >= address) {
                    return;
                }
                emit(rule, end, table);
                depth--;
            }
        }

        /** All addresses that are left up to one are a rule's. */
        private void emit(int rule, long to, Table table) {
            if (to < next) {
                return;
            }
            int hop = NONE;
            if (rule >= 0 && rule < MOST_RULES) {
                serving[rule] += to - next + 1;
                hop = table.hopOf[rule];
            }
            int key = hop >= 0 && hop < MOST_RULES ? table.key[hop] : NONE;
            if (size > 0 && size <= MOST_SPANS && hopOf[size - 1] == hop) {
                last[size - 1] = to;
            } else if (size < MOST_SPANS) {
                first[size] = next;
                last[size] = to;
                hopOf[size] = hop;
                keyOfSpan[size] = key;
                size++;
            }
            next = to + 1;
        }

        /** The span that has an address, looked for from one on that is not behind it. */
        int spanWith(long address, int from) {
            int at = from < 0 ? 0 : from;
            while (at < size - 1 && at < MOST_SPANS - 1 && last[at] < address) {
                at++;
            }
            return Math.min(at, MOST_SPANS - 1);
        }

        int idle(int rules) {
            int found = 0;
            for (int i = 0; i < rules && i < MOST_RULES; i++) {
                found += serving[i] == 0 ? 1 : 0;
            }
            return found;
        }

        long addressesWith(int hop) {
            long sum = 0;
            for (int i = 0; i < size && i < MOST_SPANS; i++) {
                sum += hopOf[i] == hop ? last[i] - first[i] + 1 : 0;
            }
            return sum;
        }

        /** How many addresses have other ways in both, or the first one (-2: none). */
        long differing(Spans other, boolean firstOne) {
            long sum = 0;
            int i = 0;
            int j = 0;
            for (int turn = 0; turn < 2 * MOST_SPANS; turn++) {
                if (i >= size || i >= MOST_SPANS || j >= other.size || j >= MOST_SPANS) {
                    break;
                }
                long from = Math.max(first[i], other.first[j]);
                long to = Math.min(last[i], other.last[j]);
                if (keyOfSpan[i] != other.keyOfSpan[j]) {
                    if (firstOne) {
                        return from;
                    }
                    sum += to - from + 1;
                }
                // The one that ends here is behind us, or both.
                boolean otherEnds = other.last[j] <= to;
                i += last[i] <= to ? 1 : 0;
                j += otherEnds ? 1 : 0;
            }
            return firstOne ? MISSING : sum;
        }
    }

    /** Nodes by levels, then by values. */
    private static final class Nodes {
        private static final int NOTHING = -2;

        int size;
        final long[] value = new long[MOST_NODES];
        final int[] levelOf = new int[MOST_NODES];
        final long[] child = new long[MOST_NODES];
        final long[] run = new long[MOST_NODES];
        final int[] parent = new int[MOST_NODES];
        final int[] firstChild = new int[MOST_NODES];
        // The nodes gone through to the last address that was asked for.
        final int[] trail = new int[MOST_LEVELS];
        // Of node n storedFrom[n] to storedFrom[n + 1] - 1.
        private final int[] storedFrom = new int[MOST_NODES + 1];
        private final int[] storedHop = new int[MOST_STORED];
        private final int[] storedKey = new int[MOST_STORED];
        // The span that has the node's first address.
        private final int[] spanAt = new int[MOST_NODES];
        private final int[] levelFrom = new int[MOST_LEVELS + 1];
        // How many bits the levels ahead have told, and how many are told by each.
        private final int[] bitsAhead = new int[MOST_LEVELS + 1];
        private final int[] stride = new int[MOST_LEVELS];
        private int levels;
        private int storedSize;
        private int gone;

        void build(Table table, Spans spans) {
            levels = Math.min(table.levels, MOST_LEVELS);
            for (int i = 0; i < levels; i++) {
                stride[i] = table.stride[i];
                bitsAhead[i + 1] = bitsAhead[i] + stride[i];
            }
            size = 0;
            storedSize = 0;
            append(0, 0, NONE, 0);
            for (int i = 0; i < levels; i++) {
                int start = levelFrom[i];
                int behind = size;
                levelFrom[i + 1] = behind;
                for (int n = start; n < behind; n++) {
                    fill(n, i, spans);
                }
            }
        }

        private void append(long low, int level, int from, int span) {
            if (size >= MOST_NODES) {
                return;
            }
            value[size] = low;
            levelOf[size] = level;
            parent[size] = from;
            spanAt[size] = span;
            child[size] = 0;
            run[size] = 0;
            size++;
        }

        private void fill(int n, int level, Spans spans) {
            int slots = 1 << stride[level];
            int slotBits = BITS - bitsAhead[level + 1];
            int span = spanAt[n];
            int before = NOTHING;
            firstChild[n] = size;
            storedFrom[n] = storedSize;
            int step = 1;
            for (int at = 0; at < slots; at += step) {
                long low = value[n] + ((long) at << slotBits);
                span = spans.spanWith(low, span);
                // How many slots from here on lie in the span; none if it ends inside this one.
                long whole = (spans.last[span] - low + 1) >> slotBits;
                step = 1;
                if (whole <= 0) {
                    child[n] |= 1L << at;
                    append(low, level + 1, n, span);
                    continue;
                }
                if (spans.hopOf[span] != before) {
                    before = spans.hopOf[span];
                    run[n] |= 1L << at;
                    store(before, spans.keyOfSpan[span]);
                }
                step = (int) Math.min(whole, slots);
            }
            storedFrom[n + 1] = storedSize;
        }

        private void store(int hop, int key) {
            if (storedSize < MOST_STORED) {
                storedHop[storedSize] = hop;
                storedKey[storedSize] = key;
                storedSize++;
            }
        }

        boolean has(int n) {
            return n >= 0 && n < size && n < MOST_NODES;
        }

        int startOfLevel(int level) {
            return level >= 0 && level < levels ? levelFrom[level] : size;
        }

        int behindLevel(int level) {
            return level >= 0 && level + 1 < levels ? levelFrom[level + 1] : size;
        }

        int slotsOf(int n) {
            return has(n) ? 1 << stride[levelOf[n]] : 0;
        }

        int storedBy(int n) {
            return has(n) ? storedFrom[n + 1] - storedFrom[n] : 0;
        }

        /** The i-th hop that a node stores, -2 without. */
        int storedAt(int n, int i) {
            return has(n) && i >= 0 && i < storedFrom[n + 1] - storedFrom[n] ? storedHop[storedFrom[n] + i] : MISSING;
        }

        int storedIn(int from, int behind) {
            return from >= 0 && from < behind && behind <= MOST_NODES ? storedFrom[behind] - storedFrom[from] : 0;
        }

        /** The node that a slot leads to, NONE of a leaf. */
        int childAt(int n, int slot) {
            if (!has(n) || slot < 0 || slot >= slotsOf(n) || (child[n] & (1L << slot)) == 0) {
                return NONE;
            }
            return firstChild[n] + Long.bitCount(child[n] & ((1L << slot) - 1));
        }

        /** The place of a leaf's hop among those that its node stores. */
        private int placeAt(int n, int slot) {
            // 2 << 63 is 0, so that of slot 63 all bits count.
            return Long.bitCount(run[n] & ((2L << slot) - 1)) - 1;
        }

        int leafHop(int n, int slot) {
            if (!has(n) || slot < 0 || slot >= slotsOf(n)) {
                return NONE;
            }
            int at = storedFrom[n] + placeAt(n, slot);
            return at >= 0 && at < storedSize ? storedHop[at] : NONE;
        }

        private int slotOf(long address, int level) {
            if (level < 0 || level >= levels) {
                return 0;
            }
            return (int) (address >> (BITS - bitsAhead[level + 1])) & ((1 << stride[level]) - 1);
        }

        /** Puts the nodes that are gone through to an address's leaf into trail: how many. */
        int goTo(long address) {
            gone = 0;
            int n = 0;
            while (gone < levels && has(n)) {
                trail[gone] = n;
                n = childAt(n, slotOf(address, gone));
                gone++;
            }
            return gone;
        }

        /** At which place the hop of the address stands that was gone to last. */
        int placeOf(long address) {
            if (gone <= 0 || gone > MOST_LEVELS || !has(trail[gone - 1])) {
                return NONE;
            }
            return placeAt(trail[gone - 1], slotOf(address, gone - 1));
        }

        int deepest() {
            return has(size - 1) ? levelOf[size - 1] + 1 : 0;
        }

        /** How many nodes are gone through for all addresses together. */
        long allSteps() {
            long sum = 0;
            for (int i = 0; i < levels; i++) {
                sum += (behindLevel(i) - startOfLevel(i)) * widthOf(bitsAhead[i]);
            }
            return sum;
        }

        /** Whether a node has the bits and the ways that a node here or of other nodes has. */
        boolean isSame(int m, Nodes other, int n) {
            if (!has(m) || !other.has(n) || child[m] != other.child[n] || run[m] != other.run[n]) {
                return false;
            }
            int there = storedFrom[m + 1] - storedFrom[m];
            if (there != other.storedFrom[n + 1] - other.storedFrom[n]) {
                return false;
            }
            for (int i = 0; i < there; i++) {
                int a = storedFrom[m] + i;
                int b = other.storedFrom[n] + i;
                if (a >= MOST_STORED || b >= MOST_STORED || storedKey[a] != other.storedKey[b]) {
                    return false;
                }
            }
            return true;
        }

        /** How many nodes are only here, only in other ones, or not the same in both. */
        int othersThan(Nodes other) {
            int found = 0;
            int m = 0;
            int n = 0;
            for (int turn = 0; turn < 2 * MOST_NODES && has(m) && other.has(n); turn++) {
                long order = orderOf(m, other, n);
                if (order != 0 || !isSame(m, other, n)) {
                    found++;
                }
                m += order <= 0 ? 1 : 0;
                n += order >= 0 ? 1 : 0;
            }
            return found + (size - m) + (other.size - n);
        }

        private long orderOf(int m, Nodes other, int n) {
            int levelsApart = levelOf[m] - other.levelOf[n];
            return levelsApart != 0 ? levelsApart : value[m] - other.value[n];
        }
    }

    /** Which nodes are like one another. */
    private static final class Kinds {
        private static final int ROWS = 64;

        // The least node of its level that is like it.
        final int[] kind = new int[MOST_NODES];
        // The first of each kind of a level, in rows by what they hold.
        private final int[] rowStart = new int[ROWS];
        private final int[] nextInRow = new int[MOST_NODES];

        // From the last level up, so that the kinds of the nodes that a node leads to are there.
        void find(Nodes nodes) {
            for (int i = MOST_LEVELS - 1; i >= 0; i--) {
                for (int row = 0; row < ROWS; row++) {
                    rowStart[row] = NONE;
                }
                int behind = nodes.behindLevel(i);
                for (int n = nodes.startOfLevel(i); n < behind && n < MOST_NODES; n++) {
                    kind[n] = kindOf(nodes, n);
                }
            }
        }

        private int kindOf(Nodes nodes, int n) {
            int row = rowOf(nodes, n);
            int m = rowStart[row];
            for (int turn = 0; turn < MOST_NODES && m >= 0 && m < MOST_NODES; turn++) {
                if (nodes.isSame(m, nodes, n) && leadToLike(nodes, m, n)) {
                    return m;
                }
                m = nextInRow[m];
            }
            nextInRow[n] = rowStart[row];
            rowStart[row] = n;
            return n;
        }

        private int rowOf(Nodes nodes, int n) {
            long sum = nodes.child[n] + 31 * nodes.run[n];
            int there = nodes.storedBy(n);
            for (int i = 0; i < there; i++) {
                sum = 31 * sum + nodes.storedAt(n, i);
            }
            int children = Long.bitCount(nodes.child[n]);
            for (int i = 0; i < children; i++) {
                sum = 31 * sum + kindOfChild(nodes, n, i);
            }
            return (int) (sum ^ (sum >> 32)) & (ROWS - 1);
        }

        private boolean leadToLike(Nodes nodes, int m, int n) {
            int children = Long.bitCount(nodes.child[n]);
            for (int i = 0; i < children; i++) {
                if (kindOfChild(nodes, m, i) != kindOfChild(nodes, n, i)) {
                    return false;
                }
            }
            return true;
        }

        private int kindOfChild(Nodes nodes, int n, int i) {
            int child = nodes.firstChild[n] + i;
            return nodes.has(child) ? kind[child] : NONE;
        }

        int unlikeIn(int from, int behind) {
            int found = 0;
            for (int n = from; n >= 0 && n < behind && n < MOST_NODES; n++) {
                found += kind[n] == n ? 1 : 0;
            }
            return found;
        }
    }

    /** The fewest rules by which all addresses have the hops that they have. */
    private static final class Fewest {
        int size;
        final long[] value = new long[MOST_RULES];
        final int[] length = new int[MOST_RULES];
        final int[] hopOf = new int[MOST_RULES];
        // Parts stand each ahead of its halves, the left one at once behind it. Of a set of hops
        // bit 0 is NONE and bit h + 1 is hop h.
        private final long[] set = new long[MOST_PARTS];
        private final int[] rightHalf = new int[MOST_PARTS];
        private int parts;

        void seek(Spans spans) {
            parts = 0;
            size = 0;
            part(spans, 0, 0, 0);
            hand(0, 0, 0, NONE);
        }

        boolean hasNone() {
            for (int i = 0; i < size && i < MOST_RULES; i++) {
                if (hopOf[i] == NONE) {
                    return true;
                }
            }
            return false;
        }

        /** Finds the sets of a beginning and of all into which it is parted: its place. */
        private int part(Spans spans, long low, int len, int fromSpan) {
            int me = parts;
            if (me >= MOST_PARTS || len > BITS) {
                return NONE;
            }
            parts++;
            int span = spans.spanWith(low, fromSpan);
            long width = widthOf(len);
            rightHalf[me] = NONE;
            set[me] = 1L << (spans.hopOf[span] + 1);
            if (spans.last[span] >= low + width - 1) {
                return me;
            }
            int left = part(spans, low, len + 1, span);
            int right = part(spans, low + width / 2, len + 1, span);
            if (left >= 0 && left < MOST_PARTS && right >= 0 && right < MOST_PARTS) {
                long common = set[left] & set[right];
                set[me] = common != 0 ? common : set[left] | set[right];
                rightHalf[me] = right;
            }
            return me;
        }

        private void hand(int me, long low, int len, int handed) {
            if (me < 0 || me >= parts || me >= MOST_PARTS || len > BITS) {
                return;
            }
            int on = handed;
            if ((set[me] & (1L << (handed + 1))) == 0) {
                on = leastOf(set[me]);
                append(low, len, on);
            }
            if (rightHalf[me] >= 0) {
                hand(me + 1, low, len + 1, on);
                hand(rightHalf[me], low + widthOf(len) / 2, len + 1, on);
            }
        }

        private static int leastOf(long hops) {
            return Long.bitCount((hops & -hops) - 1) - 1;
        }

        private void append(long low, int len, int hop) {
            if (size < MOST_RULES) {
                value[size] = low;
                length[size] = len;
                hopOf[size] = hop;
                size++;
            }
        }
    }

    /** What rows of strides would cost in slots. */
    private static final class Costs {
        private static final long FAR = 1L << 60;

        // How many beginnings of a length would be nodes, if a level began there.
        private final long[] nodesAt = new long[BITS + 1];
        // The fewest slots from so many bits on by just so many strides.
        private final long[][] slotsFrom = new long[BITS + 1][MOST_LEVELS + 1];

        void weigh(Spans spans) {
            for (int bits = 0; bits < BITS; bits++) {
                nodesAt[bits] = partedBeginnings(spans, bits);
            }
            nodesAt[0] = 1;
            for (int bits = BITS; bits >= 0; bits--) {
                slotsFrom[bits][0] = bits == BITS ? 0 : FAR;
                for (int levels = 1; levels <= MOST_LEVELS; levels++) {
                    slotsFrom[bits][levels] = fewestSlots(bits, levels);
                }
            }
        }

        // A beginning is parted if a span inside it ends ahead of its last address.
        private static long partedBeginnings(Spans spans, int bits) {
            long found = 0;
            long before = -1;
            long width = widthOf(bits);
            for (int i = 1; i < spans.size && i < MOST_SPANS; i++) {
                long low = spans.first[i];
                long beginning = low >> (BITS - bits);
                if ((low & (width - 1)) != 0 && beginning != before) {
                    found++;
                    before = beginning;
                }
            }
            return found;
        }

        private long slotsWith(int bits, int levels, int stride) {
            int behind = bits + stride;
            if (bits < 0 || behind > BITS || levels < 1 || levels > MOST_LEVELS) {
                return FAR;
            }
            return (nodesAt[bits] << stride) + slotsFrom[behind][levels - 1];
        }

        private long fewestSlots(int bits, int levels) {
            long least = FAR;
            for (int stride = LEAST_STRIDE; stride <= MOST_STRIDE; stride++) {
                least = Math.min(least, slotsWith(bits, levels, stride));
            }
            return least;
        }

        long slotsBy(int levels) {
            return levels >= 0 && levels <= MOST_LEVELS ? slotsFrom[0][levels] : FAR;
        }

        int bestLevels(int most) {
            int found = LEAST_LEVELS;
            for (int levels = LEAST_LEVELS; levels <= most; levels++) {
                if (slotsBy(levels) < slotsBy(found)) {
                    found = levels;
                }
            }
            return found;
        }

        /** The least row as a number: the least stride at each place that leads to the fewest. */
        long digitsBy(int levels) {
            long digits = 0;
            int bits = 0;
            for (int left = levels; left > 0; left--) {
                int stride = LEAST_STRIDE;
                while (stride < MOST_STRIDE && slotsWith(bits, left, stride) != fewestSlots(bits, left)) {
                    stride++;
                }
                digits = digits * 10 + stride;
                bits += stride;
            }
            return digits;
        }
    }

    /** The fewest beginnings in which just the addresses of a range lie. */
    private static final class Pieces {
        int size;
        final long[] value = new long[MOST_PIECES];
        final int[] length = new int[MOST_PIECES];

        void cut(long from, long to) {
            size = 0;
            long low = from;
            while (low <= to && size < MOST_PIECES) {
                int len = shortestAt(low, to);
                value[size] = low;
                length[size] = len;
                size++;
                low += widthOf(len);
            }
        }

        private static int shortestAt(long low, long to) {
            int len = 0;
            while (len < BITS && ((low & (widthOf(len) - 1)) != 0 || low + widthOf(len) - 1 > to)) {
                len++;
            }
            return len;
        }

        long tellOf(int k, int what) {
            if (k < 0 || k >= size || k >= MOST_PIECES || (what != 0 && what != 1)) {
                return MISSING;
            }
            return what == 0 ? length[k] : value[k];
        }
    }
}
