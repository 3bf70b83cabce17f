import java.util.ArrayDeque;
import java.util.ArrayList;
import java.util.Arrays;
import java.util.HashMap;
import java.util.HashSet;
import java.util.LinkedHashSet;
import java.util.List;
import java.util.Map;
import java.util.Set;
import java.util.TreeMap;
import java.util.TreeSet;

/**
 * The document again, as slowly and as literally as it can be said: every answer is worked out
 * anew from the rules, by other ways than the class has. Tests hold the class against it.
 */
final class Model {
    static final long ALL = 1L << 32;

    record Beginning(long value, int length) implements Comparable<Beginning> {
        long width() {
            return ALL >> length;
        }

        long last() {
            return value + width() - 1;
        }

        boolean has(long address) {
            return value <= address && address <= last();
        }

        boolean has(Beginning other) {
            return other.length >= length && has(other.value);
        }

        Beginning half(int bit) {
            return new Beginning(value + bit * (width() / 2), length + 1);
        }

        public int compareTo(Beginning other) {
            return value != other.value ? Long.compare(value, other.value) : Integer.compare(length, other.length);
        }
    }

    record Way(int gate, int port) { }

    static final class State {
        final TreeMap<Beginning, Integer> rules = new TreeMap<>();
        final TreeMap<Integer, Way> hops = new TreeMap<>();
        List<Integer> strides = List.of(4, 4, 4, 4, 4, 4, 4, 4);

        State copy() {
            State s = new State();
            s.rules.putAll(rules);
            s.hops.putAll(hops);
            s.strides = strides;
            return s;
        }

        void tidy() {
            hops.keySet().retainAll(new HashSet<>(rules.values()));
        }

        int put(Beginning b, Way way) {
            if (has(b, way)) {
                return rules.get(b);
            }
            rules.remove(b);
            tidy();
            int number = -1;
            for (Map.Entry<Integer, Way> e : hops.entrySet()) {
                if (e.getValue().equals(way)) {
                    number = e.getKey();
                }
            }
            if (number < 0) {
                number = 0;
                while (hops.containsKey(number)) {
                    number++;
                }
                hops.put(number, way);
            }
            rules.put(b, number);
            return number;
        }

        boolean has(Beginning b, Way way) {
            return rules.containsKey(b) && hops.get(rules.get(b)).equals(way);
        }

        Beginning ruleOf(long address) {
            Beginning best = null;
            for (Beginning b : rules.keySet()) {
                if (b.has(address) && (best == null || b.length() > best.length())) {
                    best = b;
                }
            }
            return best;
        }

        int hopOf(long address) {
            Beginning b = ruleOf(address);
            return b == null ? -1 : rules.get(b);
        }

        Way wayOf(long address) {
            return hops.get(hopOf(address));
        }

        /** Places where the hop of addresses can change: each is the first of what follows. */
        TreeSet<Long> edges() {
            TreeSet<Long> edges = new TreeSet<>();
            edges.add(0L);
            for (Beginning b : rules.keySet()) {
                edges.add(b.value());
                edges.add(b.last() + 1);
            }
            edges.remove(ALL);
            return edges;
        }

        private TreeMap<Long, Integer> hopFrom;

        /** The hop of all addresses in a beginning, or null if they have several. */
        Integer oneHop(Beginning b) {
            if (hopFrom == null) {
                hopFrom = new TreeMap<>();
                for (long edge : edges()) {
                    hopFrom.put(edge, hopOf(edge));
                }
            }
            int hop = hopFrom.floorEntry(b.value()).getValue();
            for (int other : hopFrom.subMap(b.value(), true, b.last(), true).values()) {
                if (other != hop) {
                    return null;
                }
            }
            return hop;
        }
    }

    static final class Node {
        int number;
        int level;
        Beginning at;
        Node parent;
        final List<Object> slots = new ArrayList<>();

        long childBits() {
            long bits = 0;
            for (int i = 0; i < slots.size(); i++) {
                bits |= slots.get(i) instanceof Node ? 1L << i : 0;
            }
            return bits;
        }

        long runBits() {
            long bits = 0;
            Object ahead = null;
            for (int i = 0; i < slots.size(); i++) {
                if (slots.get(i) instanceof Integer hop) {
                    bits |= hop.equals(ahead) ? 0 : 1L << i;
                    ahead = hop;
                }
            }
            return bits;
        }

        List<Integer> stored() {
            List<Integer> stored = new ArrayList<>();
            for (int i = 0; i < slots.size(); i++) {
                if ((runBits() >> i & 1) == 1) {
                    stored.add((Integer) slots.get(i));
                }
            }
            return stored;
        }

        boolean isLike(Node other) {
            for (int i = 0; i < slots.size(); i++) {
                Object a = slots.get(i);
                Object b = other.slots.get(i);
                if (a instanceof Node x && b instanceof Node y ? !x.isLike(y) : !a.equals(b)) {
                    return false;
                }
            }
            return true;
        }
    }

    static List<Node> nodesOf(State s) {
        List<Node> all = new ArrayList<>();
        List<Node> row = new ArrayList<>();
        Node root = new Node();
        root.at = new Beginning(0, 0);
        row.add(root);
        for (int level = 0; level < s.strides.size(); level++) {
            List<Node> next = new ArrayList<>();
            int stride = s.strides.get(level);
            for (Node n : row) {
                n.level = level;
                n.number = all.size();
                all.add(n);
                for (int i = 0; i < 1 << stride; i++) {
                    int length = n.at.length() + stride;
                    Beginning b = new Beginning(n.at.value() + i * (ALL >> length), length);
                    Integer hop = s.oneHop(b);
                    if (hop != null) {
                        n.slots.add(hop);
                        continue;
                    }
                    Node child = new Node();
                    child.at = b;
                    child.parent = n;
                    n.slots.add(child);
                    next.add(child);
                }
            }
            row = next;
        }
        return all;
    }

    static Map<String, String> looks(State s) {
        Map<String, String> looks = new HashMap<>();
        for (Node n : nodesOf(s)) {
            StringBuilder stored = new StringBuilder();
            for (int hop : n.stored()) {
                stored.append(s.hops.get(hop)).append(' ');
            }
            looks.put(n.level + ":" + n.at.value(), n.childBits() + " " + n.runBits() + " " + stored);
        }
        return looks;
    }

    static int touched(State before, State after) {
        Map<String, String> a = looks(before);
        Map<String, String> b = looks(after);
        Set<String> all = new HashSet<>(a.keySet());
        all.addAll(b.keySet());
        int touched = 0;
        for (String at : all) {
            touched += a.containsKey(at) && b.containsKey(at) && a.get(at).equals(b.get(at)) ? 0 : 1;
        }
        return touched;
    }

    static List<Beginning> coverOf(long from, long to) {
        List<Beginning> found = new ArrayList<>();
        coverIn(new Beginning(0, 0), from, to, found);
        return found;
    }

    private static void coverIn(Beginning b, long from, long to, List<Beginning> found) {
        if (b.value() >= from && b.last() <= to) {
            found.add(b);
        } else if (b.last() >= from && b.value() <= to) {
            coverIn(b.half(0), from, to, found);
            coverIn(b.half(1), from, to, found);
        }
    }

    record Rule(Beginning at, int hop) { }

    static List<Rule> fewestOf(State s) {
        List<Rule> found = new ArrayList<>();
        hand(s, new Beginning(0, 0), -1, found, new HashMap<>());
        return found;
    }

    private static TreeSet<Integer> setOf(State s, Beginning b, Map<Beginning, TreeSet<Integer>> sets) {
        TreeSet<Integer> known = sets.get(b);
        if (known != null) {
            return known;
        }
        Integer hop = s.oneHop(b);
        TreeSet<Integer> set;
        if (hop != null) {
            set = new TreeSet<>(Set.of(hop));
        } else {
            TreeSet<Integer> left = setOf(s, b.half(0), sets);
            TreeSet<Integer> right = setOf(s, b.half(1), sets);
            set = new TreeSet<>(left);
            set.retainAll(right);
            if (set.isEmpty()) {
                set.addAll(left);
                set.addAll(right);
            }
        }
        sets.put(b, set);
        return set;
    }

    private static void hand(State s, Beginning b, int handed, List<Rule> found, Map<Beginning, TreeSet<Integer>> sets) {
        TreeSet<Integer> set = setOf(s, b, sets);
        int on = handed;
        if (!set.contains(handed)) {
            on = set.first();
            found.add(new Rule(b, on));
        }
        if (s.oneHop(b) == null) {
            hand(s, b.half(0), on, found, sets);
            hand(s, b.half(1), on, found, sets);
        }
    }

    static final class Fault extends Exception {
        private static final long serialVersionUID = 1;
        final int number;

        Fault(int place, int kind) {
            number = 8 * place + kind;
        }
    }

    /** A token: a number, a word, one sign, or the end. */
    record Token(int place, String text) {
        boolean isNumber() {
            return !text.isEmpty() && Character.isDigit(text.charAt(0));
        }
    }

    static List<Token> tokens(byte[] bytes) {
        String text = new String(bytes, java.nio.charset.StandardCharsets.ISO_8859_1);
        List<Token> found = new ArrayList<>();
        java.util.regex.Matcher m = java.util.regex.Pattern
                .compile("[0-9]+|[a-z]+| +|.", java.util.regex.Pattern.DOTALL).matcher(text);
        while (m.find()) {
            if (!m.group().startsWith(" ")) {
                found.add(new Token(m.start(), m.group()));
            }
        }
        found.add(new Token(bytes.length, ""));
        return found;
    }

    static State read(byte[] bytes) throws Fault {
        State s = new State();
        ArrayDeque<Token> left = new ArrayDeque<>(tokens(bytes));
        readLine(s, left);
        while (!left.peek().text().isEmpty()) {
            sign(left, ";");
            readLine(s, left);
        }
        return s;
    }

    private static void readLine(State s, ArrayDeque<Token> left) throws Fault {
        if (left.peek().text().equals("strides")) {
            left.poll();
            s.strides = readStrides(left);
            return;
        }
        long value = 0;
        for (int i = 0; i < 4; i++) {
            if (i > 0) {
                sign(left, ".");
            }
            value = value * 256 + number(left, 0, 255);
        }
        sign(left, "/");
        int place = left.peek().place();
        int length = number(left, 0, 32);
        if (value % (ALL >> length) != 0) {
            throw new Fault(place, 3);
        }
        sign(left, "=");
        int gate = number(left, 0, 99);
        int port = number(left, 0, 9);
        s.put(new Beginning(value, length), new Way(gate, port));
    }

    private static List<Integer> readStrides(ArrayDeque<Token> left) throws Fault {
        List<Integer> strides = new ArrayList<>();
        int sum = 0;
        do {
            int place = left.peek().place();
            int n = number(left, 2, 6);
            sum += n;
            if (sum > 32) {
                throw new Fault(place, 2);
            }
            strides.add(n);
        } while (sum < 32 || left.peek().isNumber());
        return strides;
    }

    private static void sign(ArrayDeque<Token> left, String sign) throws Fault {
        if (!left.peek().text().equals(sign)) {
            throw new Fault(left.peek().place(), 1);
        }
        left.poll();
    }

    private static int number(ArrayDeque<Token> left, int least, int most) throws Fault {
        Token t = left.peek();
        if (!t.isNumber()) {
            throw new Fault(t.place(), 1);
        }
        java.math.BigInteger n = new java.math.BigInteger(t.text());
        if (n.bitLength() > 20 || n.intValue() < least || n.intValue() > most) {
            throw new Fault(t.place(), 2);
        }
        left.poll();
        return n.intValue();
    }

    // ---- the face

    private byte[] tape = new byte[0];
    private State now = new State();
    private final ArrayDeque<State> past = new ArrayDeque<>();
    private final State[] shelves = new State[2];
    private int touched;
    // The nodes of the state that is there, as long as it stays that one.
    private State nodesAreOf;
    private List<Node> nodes;

    private List<Node> nodes() {
        if (nodesAreOf != now) {
            nodesAreOf = now;
            nodes = nodesOf(now);
        }
        return nodes;
    }

    private static long u(int n) {
        return Integer.toUnsignedLong(n);
    }

    private static boolean isBeginning(int value, int length) {
        return length >= 0 && length <= 32 && u(value) % (ALL >> length) == 0;
    }

    private static boolean isWay(int gate, int port) {
        return gate >= 0 && gate < 100 && port >= 0 && port < 10;
    }

    private void act(State after) {
        touched = touched(now, after);
        past.addLast(now);
        if (past.size() > 10) {
            past.removeFirst();
        }
        now = after;
    }

    private List<Map.Entry<Beginning, Integer>> rules() {
        return new ArrayList<>(now.rules.entrySet());
    }

    int feed(int a, int b, int c, int d, int e) {
        if (tape.length + 20 > 400) {
            return -1;
        }
        java.nio.ByteBuffer buffer = java.nio.ByteBuffer.allocate(tape.length + 20);
        buffer.put(tape).putInt(a).putInt(b).putInt(c).putInt(d).putInt(e);
        tape = buffer.array();
        return tape.length;
    }

    int end(int n) {
        if (n < 0 || n > tape.length) {
            return -1;
        }
        tape = Arrays.copyOf(tape, n);
        return n;
    }

    int tell() {
        byte[] text = tape;
        tape = new byte[0];
        try {
            now = read(text);
        } catch (Fault fault) {
            return -2 - fault.number;
        }
        past.clear();
        touched = 0;
        return now.rules.size();
    }

    int add(int value, int length, int gate, int port) {
        if (!isBeginning(value, length) || !isWay(gate, port)) {
            return -1;
        }
        Beginning b = new Beginning(u(value), length);
        Way way = new Way(gate, port);
        if (now.has(b, way)) {
            return -2;
        }
        if (!now.rules.containsKey(b) && now.rules.size() == 60) {
            return -3;
        }
        State after = now.copy();
        int hop = after.put(b, way);
        act(after);
        return hop;
    }

    int withdraw(int value, int length) {
        Beginning b = new Beginning(u(value), length);
        if (!now.rules.containsKey(b)) {
            return -1;
        }
        State after = now.copy();
        after.rules.remove(b);
        after.tidy();
        act(after);
        return now.rules.size();
    }

    int range(int from, int to, int gate, int port) {
        if (u(from) > u(to) || !isWay(gate, port)) {
            return -1;
        }
        List<Beginning> pieces = coverOf(u(from), u(to));
        State after = now.copy();
        boolean all = true;
        for (Beginning b : pieces) {
            all &= now.has(b, new Way(gate, port));
            after.put(b, new Way(gate, port));
        }
        if (all) {
            return -2;
        }
        if (after.rules.size() > 60) {
            return -3;
        }
        act(after);
        return pieces.size();
    }

    int strides(long digits) {
        List<Integer> found = new ArrayList<>();
        int sum = 0;
        for (char c : Long.toString(digits).toCharArray()) {
            if (c < '2' || c > '6') {
                return -1;
            }
            found.add(c - '0');
            sum += c - '0';
        }
        if (sum != 32) {
            return -1;
        }
        if (found.equals(now.strides)) {
            return -2;
        }
        State after = now.copy();
        after.strides = found;
        act(after);
        return found.size();
    }

    int gather() {
        State after = now.copy();
        after.rules.clear();
        for (Rule r : fewestOf(now)) {
            if (r.hop() < 0) {
                return -2;
            }
            after.rules.put(r.at(), r.hop());
        }
        after.tidy();
        if (after.rules.equals(now.rules)) {
            return -3;
        }
        act(after);
        return now.rules.size();
    }

    int undo() {
        if (past.isEmpty()) {
            return -1;
        }
        now = past.removeLast();
        touched = 0;
        return past.size();
    }

    int keep(int shelf) {
        if (shelf != 0 && shelf != 1) {
            return -1;
        }
        shelves[shelf] = now;
        return now.rules.size();
    }

    int back(int shelf) {
        if (shelf != 0 && shelf != 1) {
            return -1;
        }
        if (shelves[shelf] == null) {
            return -2;
        }
        now = shelves[shelf];
        past.clear();
        touched = 0;
        return now.rules.size();
    }

    private List<Node> wayTo(long address) {
        List<Node> way = new ArrayList<>();
        Object at = nodes().get(0);
        while (at instanceof Node n) {
            way.add(n);
            at = n.slots.get(slotOf(n, address));
        }
        return way;
    }

    private static int slotOf(Node n, long address) {
        return (int) ((address - n.at.value()) / (n.at.width() / n.slots.size()));
    }

    int look(int address, int what) {
        long a = u(address);
        Beginning rule = now.ruleOf(a);
        List<Node> way = wayTo(a);
        if (what == 0) {
            return now.hopOf(a);
        }
        if (what == 1) {
            return rule == null ? -1 : now.rules.headMap(rule).size();
        }
        if (what == 2) {
            return way.size();
        }
        if (what == 3) {
            Node last = way.get(way.size() - 1);
            int place = -1;
            for (int i = 0; i <= slotOf(last, a); i++) {
                place += (int) (last.runBits() >> i & 1);
            }
            return place;
        }
        if (what == 4 && rule != null) {
            State without = now.copy();
            without.rules.remove(rule);
            return without.hopOf(a);
        }
        return -1;
    }

    int path(int address, int i) {
        List<Node> way = wayTo(u(address));
        return i < 0 ? -1 : i < way.size() ? way.get(i).number : -2;
    }

    int would(int value, int length, int gate, int port) {
        if (!isBeginning(value, length) || !isWay(gate, port)) {
            return -1;
        }
        Beginning b = new Beginning(u(value), length);
        if (!now.rules.containsKey(b) && now.rules.size() == 60) {
            return -3;
        }
        State after = now.copy();
        after.put(b, new Way(gate, port));
        return touched(now, after);
    }

    int within(int value, int length, int k) {
        if (!isBeginning(value, length) || k < -1) {
            return -1;
        }
        List<Integer> found = new ArrayList<>();
        Beginning b = new Beginning(u(value), length);
        int i = 0;
        for (Beginning other : now.rules.keySet()) {
            if (b.has(other)) {
                found.add(i);
            }
            i++;
        }
        return k == -1 ? found.size() : k < found.size() ? found.get(k) : -2;
    }

    long differs(int shelf, int what) {
        if (shelf < 0 || shelf > 1 || shelves[shelf] == null || what < 0 || what > 1) {
            return -1;
        }
        State then = shelves[shelf];
        TreeSet<Long> edges = now.edges();
        edges.addAll(then.edges());
        long first = -2;
        long sum = 0;
        for (long edge : edges) {
            Way a = now.wayOf(edge);
            Way b = then.wayOf(edge);
            if (a == null ? b != null : !a.equals(b)) {
                first = first == -2 ? edge : first;
                sum += (edges.higher(edge) == null ? ALL : edges.higher(edge)) - edge;
            }
        }
        return what == 0 ? sum : first;
    }

    int rule(int k, int what) {
        if (k < 0 || k >= now.rules.size() || what < 0 || what > 4) {
            return what == 0 ? 0 : -2;
        }
        Map.Entry<Beginning, Integer> rule = rules().get(k);
        if (what == 0) {
            return (int) rule.getKey().value();
        }
        if (what == 1) {
            return rule.getKey().length();
        }
        if (what == 2) {
            return rule.getValue();
        }
        if (what == 3) {
            return served(k) == 0 ? 1 : 0;
        }
        int found = -1;
        for (int i = 0; i < now.rules.size(); i++) {
            Beginning b = rules().get(i).getKey();
            if (i != k && b.has(rule.getKey()) && (found < 0 || b.length() > rules().get(found).getKey().length())) {
                found = i;
            }
        }
        return found;
    }

    long served(int k) {
        if (k < 0 || k >= now.rules.size()) {
            return -1;
        }
        Beginning rule = rules().get(k).getKey();
        long sum = 0;
        TreeSet<Long> edges = now.edges();
        for (long edge : edges) {
            if (rule.equals(now.ruleOf(edge))) {
                sum += (edges.higher(edge) == null ? ALL : edges.higher(edge)) - edge;
            }
        }
        return sum;
    }

    int hop(int hop, int what) {
        Way way = now.hops.get(hop);
        if (way == null || what < 0 || what > 2) {
            return -1;
        }
        if (what == 2) {
            return (int) now.rules.values().stream().filter(h -> h == hop).count();
        }
        return what == 0 ? way.gate() : way.port();
    }

    long reach(int hop) {
        if (hop != -1 && !now.hops.containsKey(hop)) {
            return -2;
        }
        long sum = 0;
        for (long[] span : spans()) {
            sum += span[2] == hop ? span[1] - span[0] + 1 : 0;
        }
        return sum;
    }

    private Node nodeAt(int node) {
        return node >= 0 && node < nodes().size() ? nodes().get(node) : null;
    }

    long node(int node, int what) {
        Node n = nodeAt(node);
        if (n == null || what < 0 || what > 5) {
            return what == 0 || what == 1 ? 0 : -2;
        }
        return switch (what) {
            case 0 -> n.childBits();
            case 1 -> n.runBits();
            case 2 -> n.level;
            case 3 -> n.at.value();
            case 4 -> n.stored().size();
            default -> n.parent == null ? -1 : n.parent.number;
        };
    }

    int stored(int node, int i) {
        Node n = nodeAt(node);
        return n == null || i < 0 || i >= n.stored().size() ? -2 : n.stored().get(i);
    }

    int slot(int node, int slot, int what) {
        Node n = nodeAt(node);
        if (n == null || slot < 0 || slot >= n.slots.size() || what < 0 || what > 1) {
            return -3;
        }
        if (n.slots.get(slot) instanceof Node to) {
            return what == 0 ? to.number : -2;
        }
        return what == 0 ? -1 : (Integer) n.slots.get(slot);
    }

    int alike(int node, int other) {
        Node a = nodeAt(node);
        Node b = nodeAt(other);
        if (a == null || b == null || a.level != b.level) {
            return -1;
        }
        return a.isLike(b) ? 1 : 0;
    }

    int level(int level, int what) {
        if (level < 0 || level >= now.strides.size() || what < 0 || what > 3) {
            return -1;
        }
        if (what == 0) {
            return now.strides.get(level);
        }
        List<Node> unlike = new ArrayList<>();
        int there = 0;
        int stored = 0;
        for (Node n : nodes()) {
            if (n.level == level) {
                there++;
                stored += n.stored().size();
                if (unlike.stream().noneMatch(n::isLike)) {
                    unlike.add(n);
                }
            }
        }
        return what == 1 ? there : what == 2 ? stored : unlike.size();
    }

    private List<long[]> spans() {
        List<long[]> found = new ArrayList<>();
        for (long edge : now.edges()) {
            int hop = now.hopOf(edge);
            if (!found.isEmpty() && found.get(found.size() - 1)[2] == hop) {
                continue;
            }
            if (!found.isEmpty()) {
                found.get(found.size() - 1)[1] = edge - 1;
            }
            found.add(new long[] {edge, ALL - 1, hop});
        }
        return found;
    }

    long span(int k, int what) {
        List<long[]> spans = spans();
        return k < 0 || k >= spans.size() || what < 0 || what > 2 ? -2 : spans.get(k)[what];
    }

    private static long tell(List<Beginning> of, int k, int what) {
        if (k == -1 && what == 0) {
            return of.size();
        }
        if (k < 0 || k >= of.size() || what < 0 || what > 1) {
            return -2;
        }
        return what == 0 ? of.get(k).length() : of.get(k).value();
    }

    long cover(int from, int to, int k, int what) {
        return u(from) > u(to) ? -2 : tell(coverOf(u(from), u(to)), k, what);
    }

    long own(int hop, int k, int what) {
        if (hop != -1 && !now.hops.containsKey(hop)) {
            return -2;
        }
        List<Beginning> found = new ArrayList<>();
        ownIn(new Beginning(0, 0), hop, found);
        return tell(found, k, what);
    }

    private void ownIn(Beginning b, int hop, List<Beginning> found) {
        Integer one = now.oneHop(b);
        if (one == null) {
            ownIn(b.half(0), hop, found);
            ownIn(b.half(1), hop, found);
        } else if (one == hop) {
            found.add(b);
        }
    }

    private long bestSlots;
    private long bestDigits;
    private int bestLength;
    private final long[] parted = new long[33];

    long best(int m, int what) {
        if (m < 6 || m > 16 || what < 0 || what > 1) {
            return -1;
        }
        for (int length = 0; length < 32; length++) {
            Set<Long> found = new LinkedHashSet<>();
            for (long edge : now.edges()) {
                Beginning b = new Beginning(edge - edge % (ALL >> length), length);
                if (now.oneHop(b) == null) {
                    found.add(b.value());
                }
            }
            parted[length] = length == 0 ? 1 : found.size();
        }
        bestSlots = Long.MAX_VALUE;
        tryStrides(0, 0, 0, 0, m);
        return what == 0 ? bestSlots : bestDigits;
    }

    private void tryStrides(int bits, long digits, long slots, int length, int m) {
        if (bits == 32) {
            boolean better = slots != bestSlots ? slots < bestSlots
                    : length != bestLength ? length < bestLength : digits < bestDigits;
            if (better) {
                bestSlots = slots;
                bestDigits = digits;
                bestLength = length;
            }
            return;
        }
        for (int s = 2; s <= 6 && bits + s <= 32 && length < m; s++) {
            tryStrides(bits + s, digits * 10 + s, slots + (parted[bits] << s), length + 1, m);
        }
    }

    long fewest(int k, int what) {
        List<Rule> few = fewestOf(now);
        if (k == -1 && what == 0) {
            return few.size();
        }
        if (k < 0 || k >= few.size() || what < 0 || what > 2) {
            return -2;
        }
        Rule r = few.get(k);
        return what == 0 ? r.at().length() : what == 1 ? r.at().value() : r.hop();
    }

    long steps() {
        long sum = 0;
        for (Node n : nodes()) {
            for (Object to : n.slots) {
                sum += to instanceof Integer ? (n.level + 1) * (n.at.width() / n.slots.size()) : 0;
            }
        }
        return Double.doubleToLongBits((double) sum / (double) ALL);
    }

    int count(int what) {
        switch (what) {
            case 0:
                return now.rules.size();
            case 1:
                return now.hops.size();
            case 2:
                return now.strides.size();
            case 3:
                return nodes().size();
            case 4:
            case 5:
                int sum = 0;
                for (int i = 0; i < now.strides.size(); i++) {
                    sum += level(i, what == 4 ? 3 : 2);
                }
                return sum;
            case 6:
                return spans().size();
            case 7:
                int idle = 0;
                for (int i = 0; i < now.rules.size(); i++) {
                    idle += rule(i, 3);
                }
                return idle;
            case 8:
                return touched;
            case 9:
                return past.size();
            case 10:
                return tape.length;
            case 11:
                return (shelves[0] != null ? 1 : 0) + (shelves[1] != null ? 2 : 0);
            case 12:
                int most = 0;
                for (Node n : nodes()) {
                    most = Math.max(most, n.level + 1);
                }
                return most;
            default:
                return -1;
        }
    }
}
