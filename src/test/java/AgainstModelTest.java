import java.util.Random;

/** Runs of calls by chance (of fixed seeds), each answer held against the model's. */
public final class AgainstModelTest {
    private static final int MOST_SHOWN = 20;
    private static final String SPOILS = " 0123456789./=;strides\0\377A";
    private static int wrong;
    private static long calls;

    private final Random chance;
    private final RouteStrides real = new RouteStrides();
    private final Model model = new Model();
    private final String name;
    private final int[] bases = new int[6];
    private final int ways;
    private final int leastLength;
    // Runs that only grow come to full tables.
    private final boolean grows;

    private AgainstModelTest(long seed) {
        chance = new Random(seed);
        name = "seed " + seed;
        for (int i = 0; i < bases.length; i++) {
            bases[i] = chance.nextInt(3) == 0 ? -chance.nextInt(2) : chance.nextInt();
        }
        ways = 1 + chance.nextInt(chance.nextBoolean() ? 3 : 40);
        leastLength = chance.nextInt(33);
        grows = chance.nextInt(4) == 0;
    }

    public static void main(String[] args) {
        int runs = args.length > 0 ? Integer.parseInt(args[0]) : 260;
        for (int seed = 0; seed < runs; seed++) {
            new AgainstModelTest(seed).run(seed);
        }
        System.out.println("AgainstModelTest: " + calls + " calls, " + wrong + " answers are not the model's");
        if (wrong != 0 || calls == 0) {
            System.exit(1);
        }
    }

    private void due(String call, long got, long want) {
        calls++;
        if (got != want && wrong++ < MOST_SHOWN) {
            System.out.println(name + ": " + call + " answered " + got + ", the model " + want);
        }
    }

    private void run(int seed) {
        int turns = 60 + chance.nextInt(100);
        for (int i = 0; i < turns; i++) {
            if (chance.nextInt(3) > 0) {
                act();
            } else {
                ask();
            }
            if (i % 40 == 39) {
                sweep(seed % 10 == 0);
            }
        }
    }

    private int any(int below) {
        return chance.nextInt(below);
    }

    /** A number from -2 up to one that may be too great. */
    private int near(int most) {
        return any(most + 5) - 2;
    }

    private int length() {
        int kind = any(12);
        if (kind == 0) {
            return any(36) - 1;
        }
        return kind < 6 ? any(33) : leastLength + any(33 - leastLength);
    }

    private int address() {
        int base = bases[any(bases.length)];
        int kind = any(5);
        if (kind == 0) {
            return chance.nextInt();
        }
        return kind == 1 ? base : base ^ 1 << any(32) ^ (kind == 2 ? 1 << any(32) : 0);
    }

    private static int cut(int address, int length) {
        return length <= 0 ? 0 : length >= 32 ? address : address & -1 << 32 - length;
    }

    private int valueFor(int length) {
        return any(30) == 0 ? address() : cut(address(), length);
    }

    private int gateOf(int way) {
        return any(60) == 0 ? any(300) - 100 : way % 100;
    }

    private int portOf(int way) {
        return any(60) == 0 ? any(30) - 10 : way % 3;
    }

    private void act() {
        int kind = any(grows ? 84 : 100);
        if (kind < 55 || grows && kind < 68) {
            addOne();
        } else if (kind < 70) {
            withdrawOne();
        } else if (kind < 78) {
            addRange();
        } else if (kind < 84) {
            long digits = someStrides();
            due("strides(" + digits + ")", real.strides(digits), model.strides(digits));
        } else if (kind < 88) {
            due("gather()", real.gather(), model.gather());
        } else if (kind < 92) {
            due("undo()", real.undo(), model.undo());
        } else if (kind < 95) {
            int shelf = any(4) - 1;
            due("keep(" + shelf + ")", real.keep(shelf), model.keep(shelf));
        } else if (kind < 97) {
            int shelf = any(4) - 1;
            due("back(" + shelf + ")", real.back(shelf), model.back(shelf));
        } else {
            tellText();
        }
    }

    private void addOne() {
        int length = length();
        int value = valueFor(length);
        int way = any(ways);
        int gate = gateOf(way);
        int port = portOf(way);
        String told = value + ", " + length + ", " + gate + ", " + port + ")";
        if (any(3) == 0) {
            due("would(" + told, real.would(value, length, gate, port), model.would(value, length, gate, port));
        }
        due("add(" + told, real.add(value, length, gate, port), model.add(value, length, gate, port));
    }

    private void withdrawOne() {
        int length = length();
        int value = valueFor(length);
        int rules = model.count(0);
        if (rules > 0 && any(5) > 0) {
            int k = any(rules);
            value = model.rule(k, 0);
            length = model.rule(k, 1);
        }
        due("withdraw(" + value + ", " + length + ")", real.withdraw(value, length), model.withdraw(value, length));
    }

    private void addRange() {
        int from = address();
        int to = any(3) == 0 ? address() : from + any(1 << any(30));
        int way = any(ways);
        int gate = gateOf(way);
        int port = portOf(way);
        due("range(" + from + ", " + to + ", " + gate + ", " + port + ")",
                real.range(from, to, gate, port), model.range(from, to, gate, port));
    }

    private long someStrides() {
        long digits = 0;
        int sum = 0;
        int most = 3 + any(4);
        while (sum < 32 && digits < 1_000_000_000_000_000_000L / 10) {
            int digit = any(40) == 0 ? any(10) : Math.min(2 + any(most - 1), any(30) == 0 ? 9 : Math.max(2, 32 - sum));
            digits = digits * 10 + digit;
            sum += digit;
        }
        return any(40) == 0 ? -digits : digits;
    }

    private void tellText() {
        StringBuilder text = new StringBuilder();
        int lines = 1 + any(12);
        for (int i = 0; i < lines && text.length() < 340; i++) {
            text.append(i == 0 ? "" : blank() + ";" + blank()).append(any(6) == 0 ? stridesLine() : ruleLine());
        }
        feedText(spoil(text));
        due("tell() of \"" + text + "\"", real.tell(), model.tell());
        due("count(10)", real.count(10), model.count(10));
    }

    private String blank() {
        return " ".repeat(any(3) == 0 ? any(3) : 0);
    }

    private String ruleLine() {
        int length = length();
        int value = valueFor(length);
        int way = any(ways);
        StringBuilder line = new StringBuilder(blank());
        for (int shift = 24; shift >= 0; shift -= 8) {
            line.append(value >> shift & 255).append(blank()).append(shift > 0 ? "." : "/").append(blank());
        }
        line.append(Math.max(0, length)).append(blank()).append("=").append(blank());
        return line.append(way).append(" ").append(way % 3).append(blank()).toString();
    }

    private String stridesLine() {
        StringBuilder line = new StringBuilder("strides");
        for (char digit : Long.toString(Math.abs(someStrides())).toCharArray()) {
            line.append(' ').append(digit);
        }
        return line.toString();
    }

    private StringBuilder spoil(StringBuilder text) {
        if (any(3) == 0 && text.length() > 0) {
            text.setCharAt(any(text.length()), SPOILS.charAt(any(SPOILS.length())));
        }
        return text;
    }

    private void feedText(StringBuilder text) {
        due("end(0)", real.end(0), model.end(0));
        int most = Math.min(text.length(), 400);
        for (int at = 0; at < most; at += 20) {
            int[] five = new int[5];
            for (int i = 0; i < 20; i++) {
                int sign = at + i < most ? text.charAt(at + i) : any(256);
                five[i / 4] |= sign << 24 - 8 * (i % 4);
            }
            due("feed(..)", real.feed(five[0], five[1], five[2], five[3], five[4]),
                    model.feed(five[0], five[1], five[2], five[3], five[4]));
        }
        due("end(" + most + ")", real.end(most), model.end(most));
    }

    private void ask() {
        int a = address();
        int what = near(5);
        int length = length();
        int value = valueFor(length);
        int k = near(Math.max(3, model.count(0)));
        int n = near(model.count(3));
        int o = near(model.count(3));
        int hop = near(model.count(1));
        due("look(" + a + ", " + what + ")", real.look(a, what), model.look(a, what));
        due("path(" + a + ", " + what + ")", real.path(a, what), model.path(a, what));
        due("within(" + value + ", " + length + ", " + k + ")", real.within(value, length, k), model.within(value, length, k));
        due("differs(" + (k & 1) + ", " + what + ")", real.differs(k & 1, what), model.differs(k & 1, what));
        due("rule(" + k + ", " + what + ")", real.rule(k, what), model.rule(k, what));
        due("served(" + k + ")", real.served(k), model.served(k));
        due("hop(" + hop + ", " + what + ")", real.hop(hop, what), model.hop(hop, what));
        due("reach(" + hop + ")", real.reach(hop), model.reach(hop));
        due("node(" + n + ", " + what + ")", real.node(n, what), model.node(n, what));
        due("stored(" + n + ", " + what + ")", real.stored(n, what), model.stored(n, what));
        due("slot(" + n + ", " + k + ", " + what + ")", real.slot(n, k, what), model.slot(n, k, what));
        due("alike(" + n + ", " + o + ")", real.alike(n, o), model.alike(n, o));
        due("level(" + k + ", " + what + ")", real.level(k, what), model.level(k, what));
        due("span(" + k + ", " + what + ")", real.span(k, what), model.span(k, what));
        due("cover(" + a + ", " + value + ", " + k + ", " + what + ")", real.cover(a, value, k, what), model.cover(a, value, k, what));
        due("own(" + hop + ", " + k + ", " + what + ")", real.own(hop, k, what), model.own(hop, k, what));
        due("fewest(" + k + ", " + what + ")", real.fewest(k, what), model.fewest(k, what));
        due("count(" + what + ")", real.count(what), model.count(what));
    }

    /** All that can be seen of the table that is there. */
    private void sweep(boolean bestToo) {
        due("steps()", real.steps(), model.steps());
        for (int what = -1; what < 15; what++) {
            due("count(" + what + ")", real.count(what), model.count(what));
        }
        for (int k = -1; k <= model.count(0); k++) {
            for (int what = -1; what < 6; what++) {
                due("rule(" + k + ", " + what + ")", real.rule(k, what), model.rule(k, what));
            }
            due("served(" + k + ")", real.served(k), model.served(k));
        }
        for (int k = -2; k <= model.count(6); k++) {
            for (int what = -1; what < 4; what++) {
                due("span(" + k + ", " + what + ")", real.span(k, what), model.span(k, what));
                due("fewest(" + k + ", " + what + ")", real.fewest(k, what), model.fewest(k, what));
            }
        }
        sweepHops();
        sweepLevels();
        sweepNodes();
        for (int m = 5; bestToo && m < 18; m += 1 + any(4)) {
            due("best(" + m + ", 0)", real.best(m, 0), model.best(m, 0));
            due("best(" + m + ", 1)", real.best(m, 1), model.best(m, 1));
        }
    }

    private void sweepHops() {
        for (int hop = -2; hop < 62; hop += 1 + any(3)) {
            for (int what = -1; what < 4; what++) {
                due("hop(" + hop + ", " + what + ")", real.hop(hop, what), model.hop(hop, what));
            }
            due("reach(" + hop + ")", real.reach(hop), model.reach(hop));
            due("own(" + hop + ", -1, 0)", real.own(hop, -1, 0), model.own(hop, -1, 0));
            due("own(" + hop + ", -1, 1)", real.own(hop, -1, 1), model.own(hop, -1, 1));
        }
    }

    private void sweepLevels() {
        for (int level = -1; level < 18; level++) {
            for (int what = -1; what < 5; what++) {
                due("level(" + level + ", " + what + ")", real.level(level, what), model.level(level, what));
            }
        }
    }

    private void sweepNodes() {
        int step = 1 + any(4);
        for (int n = -1; n <= model.count(3); n += step) {
            for (int what = -1; what < 7; what++) {
                due("node(" + n + ", " + what + ")", real.node(n, what), model.node(n, what));
            }
            for (int i = -1; i < 65; i += 1 + any(8)) {
                due("stored(" + n + ", " + i + ")", real.stored(n, i), model.stored(n, i));
                due("slot(" + n + ", " + i + ", 0)", real.slot(n, i, 0), model.slot(n, i, 0));
                due("slot(" + n + ", " + i + ", 1)", real.slot(n, i, 1), model.slot(n, i, 1));
            }
            int other = n + any(5);
            due("alike(" + n + ", " + other + ")", real.alike(n, other), model.alike(n, other));
        }
    }
}
