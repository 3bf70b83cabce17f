import java.util.function.IntToLongFunction;

/** Promises 13 to 33 at the edges that their sentences name. */
public final class BoundaryAnswersTest extends Sentences {
    private static final int[] FAR = {Integer.MIN_VALUE, Integer.MIN_VALUE + 1, -64, -33, -32, -3, -2, 64, 1000, 1 << 30,
        Integer.MAX_VALUE - 1, Integer.MAX_VALUE};

    public static void main(String[] args) throws Exception {
        runAll(BoundaryAnswersTest.class, 13, 33);
    }

    /** The same answer for numbers far below and far above all that there may be. */
    private static void farOnes(String call, IntToLongFunction made, long want) {
        for (int odd : FAR) {
            due(call + ", " + odd, made.applyAsLong(odd), want);
        }
    }

    /** Addresses 0 and all bits to 1 1 by rules of 32 bits: two nodes of each level but the first. */
    private static RouteStrides bothEnds() {
        return of("0.0.0.0/32=1 1;255.255.255.255/32=1 1");
    }

    // ---- promises 13 to 17: addresses, what would be, shelves

    @Of(promise = 13, sentence = "Of an ADDRESS what 0: its HOP, 1: the number of its RULE,")
    static void looksForRules() {
        RouteStrides x = of("0.0.0.0/32=1 1;255.255.255.255/32=2 2;127.255.255.255/32=3 3;128.0.0.0/32=1 1");
        int[] addresses = {0, 1, Integer.MAX_VALUE - 1, Integer.MAX_VALUE, Integer.MIN_VALUE, Integer.MIN_VALUE + 1, -2, -1};
        int[] hops = {0, NONE, NONE, 2, 0, NONE, NONE, 1};
        int[] rules = {0, NONE, NONE, 1, 2, NONE, NONE, 3};
        for (int i = 0; i < addresses.length; i++) {
            due("look(" + addresses[i] + ", 0)", x.look(addresses[i], 0), hops[i]);
            due("look(" + addresses[i] + ", 1)", x.look(addresses[i], 1), rules[i]);
        }
        RouteStrides f = full();
        due("the last of 60", f.look(239, 1), 59);
        due("behind the last of 60", f.look(240, 1), NONE);
        due("the last hop of 60", f.look(236, 0), 59);
    }

    @Of(promise = 13, sentence = "2: how many NODES are gone through to its LEAF,")
    static void looksForNodes() {
        RouteStrides x = bothEnds();
        due("down to the last level", x.look(0, 2), 8);
        due("beside it", x.look(15, 2), 8);
        due("one level less", x.look(16, 2), 7);
        due("the first level alone", x.look(1 << 28, 2), 1);
        due("the last level", x.look(-1, 2), 8);
        x.strides(2222222222222222L);
        due("sixteen levels", x.look(-1, 2), 16);
        due("sixteen levels, beside it", x.look(-4, 2), 16);
        due("fifteen", x.look(-5, 2), 15);
        x.strides(266666);
        due("six levels", x.look(63, 2), 6);
        due("five levels", x.look(64, 2), 5);
        due("of no rules", new RouteStrides().look(-1, 2), 1);
    }

    @Of(promise = 13, sentence = "3: at which place of STORED its HOP stands in the last of these,")
    static void looksForPlaces() {
        RouteStrides x = of("0.0.0.0/4=1 1;32.0.0.0/4=1 1;240.0.0.0/4=2 2");
        due("the first place", x.look(0, 3), 0);
        due("none stands there, too", x.look(1 << 28, 3), 1);
        due("the first hop once more", x.look(2 << 28, 3), 2);
        due("none once more", x.look(3 << 28, 3), 3);
        due("none, in a row", x.look(14 << 28, 3), 3);
        due("the last place", x.look(-1, 3), 4);
        due("of no rules", new RouteStrides().look(-1, 3), 0);
        int[] addresses = {0, 1 << 28, 2 << 28, 3 << 28, 14 << 28, -1};
        for (int address : addresses) {
            due("the hop at that place", x.stored(0, x.look(address, 3)), x.look(address, 0));
        }
        // Slot 0 leads on: the run ahead of the first leaf is none of node 0.
        x.add(0, 32, 3, 3);
        due("in the last of the nodes", x.look(0, 3), 0);
        due("in the last of the nodes", x.look(1, 3), 1);
        due("the first leaf of node 0", x.look(1 << 28, 3), 0);
        RouteStrides y = new RouteStrides();
        y.strides(666662);
        y.add(-1 << 26, 6, 1, 1);
        due("slot 63", y.look(-1, 3), 1);
        due("slot 62", y.look((-1 << 26) - 1, 3), 0);
        RouteStrides z = bothEnds();
        z.strides(2222222222222222L);
        due("in the last of sixteen", z.look(-1, 3), 1);
        due("in the last of sixteen", z.look(-2, 3), 0);
        due("in the last of sixteen", z.look(0, 3), 0);
    }

    @Of(promise = 13, sentence = "4: which HOP it would have, were its RULE withdrawn.")
    static void looksForWhatIsRevealed() {
        RouteStrides x = of("0.0.0.0/0=1 1;0.0.0.0/1=2 2;0.0.0.0/32=3 3;255.255.255.255/32=1 1");
        due("of three", x.look(0, 4), 1);
        due("of two", x.look(1, 4), 0);
        due("of one", x.look(HIGH, 4), NONE);
        due("of the same hop", x.look(-1, 4), 0);
        due("of none", new RouteStrides().look(0, 4), NONE);
        x.withdraw(0, 0);
        due("of two", x.look(0, 4), 1);
        due("of one", x.look(1, 4), NONE);
        due("of none", x.look(HIGH, 4), NONE);
    }

    @Of(promise = 13, sentence = "NONE without these.")
    static void looksForNothing() {
        RouteStrides x = bothEnds();
        due("what 5", x.look(0, 5), NONE);
        due("what -1", x.look(0, -1), NONE);
        farOnes("look(0)", what -> x.look(0, what), NONE);
    }

    @Of(promise = 14, sentence = "The i-th NODE (0 the first) that is gone through to the LEAF of an ADDRESS;")
    static void pathsDown() {
        RouteStrides x = bothEnds();
        for (int i = 0; i < 8; i++) {
            due("path(0, " + i + ")", x.path(0, i), Math.max(0, 2 * i - 1));
            due("path(-1, " + i + ")", x.path(-1, i), 2 * i);
            due("path(-16, " + i + ")", x.path(-16, i), 2 * i);
        }
        due("path(-17, 6)", x.path(-17, 6), 12);
        due("of no rules", new RouteStrides().path(-1, 0), 0);
    }

    @Of(promise = 14, sentence = "-2: there are not so many.")
    static void pathsThatEnd() {
        RouteStrides x = bothEnds();
        due("path(0, 8)", x.path(0, 8), -2);
        due("path(-17, 7)", x.path(-17, 7), -2);
        due("path(HIGH, 1)", x.path(HIGH, 1), -2);
        due("path(0, 16)", x.path(0, 16), -2);
        due("path(0, 17)", x.path(0, 17), -2);
        due("path(0, MAX)", x.path(0, Integer.MAX_VALUE), -2);
        due("of no rules", new RouteStrides().path(0, 1), -2);
        x.strides(2222222222222222L);
        due("path(0, 15)", x.path(0, 15), 29);
        due("path(0, 16) of sixteen", x.path(0, 16), -2);
    }

    @Of(promise = 14, sentence = "NONE for i below 0.")
    static void pathsBelow() {
        RouteStrides x = bothEnds();
        due("path(0, -1)", x.path(0, -1), NONE);
        due("path(0, -2)", x.path(0, -2), NONE);
        due("path(0, MIN)", x.path(0, Integer.MIN_VALUE), NONE);
    }

    @Of(promise = 15, sentence = "How many NODES would be TOUCHED, were a RULE added, or had it that HOP (0: it has it);")
    static void wouldTouch() {
        RouteStrides x = worked();
        String before = state(x);
        due("it has it", x.would(HIGH, 1, 7, 3), 0);
        due("all have it", x.would(-1, 32, 7, 3), 0);
        // 2 6 6 6 6 6: node 0 and one new node of each level behind it.
        due("one address", x.would(-1, 32, 1, 1), 6);
        // All addresses have rules or none: node 0, and both nodes in which a leaf had none.
        due("all that have none", x.would(0, 0, 1, 1), 3);
        same("nothing has happened", state(x), before);
        RouteStrides y = new RouteStrides();
        due("all", y.would(0, 0, 1, 1), 1);
        due("1 bit", y.would(0, 1, 1, 1), 1);
        due("4 bits", y.would(0, 4, 1, 1), 1);
        due("5 bits", y.would(0, 5, 1, 1), 2);
        due("28 bits", y.would(0, 28, 1, 1), 7);
        due("29 bits", y.would(0, 29, 1, 1), 8);
        due("32 bits", y.would(-1, 32, 1, 1), 8);
        RouteStrides f = full();
        due("one of 60 has it", f.would(0, 30, 0, 0), 0);
        due("another hop of one of 60", f.would(0, 30, 0, 1), 1);
        due("count(0)", f.count(0), 60);
        due("hop(0, 1)", f.hop(0, 1), 0);
        due("count(9)", f.count(9), 10);
    }

    @Of(promise = 15, sentence = "-3: there are 60 RULES;")
    static void wouldHaveNoRoom() {
        refusedOn(Tables::full, "would", x -> x.would(-1, 32, 1, 1), -3);
        refusedOn(Tables::full, "would of a longer one", x -> x.would(0, 31, 0, 0), -3);
        RouteStrides x = full();
        x.withdraw(0, 30);
        due("of 59", x.would(0, 30, 0, 0), 1);
    }

    @Of(promise = 15, sentence = "NONE for no BEGINNING, GATE, PORT.")
    static void wouldOfNothing() {
        refused("would, length -1", x -> x.would(0, -1, 1, 1), NONE);
        refused("would, length 33", x -> x.would(0, 33, 1, 1), NONE);
        refused("would, a bit behind 0", x -> x.would(HIGH, 0, 1, 1), NONE);
        refused("would, a bit behind 31", x -> x.would(1, 31, 1, 1), NONE);
        refused("would, gate -1", x -> x.would(0, 30, -1, 0), NONE);
        refused("would, gate 100", x -> x.would(0, 30, 100, 0), NONE);
        refused("would, port -1", x -> x.would(0, 30, 0, -1), NONE);
        refused("would, port 10", x -> x.would(0, 30, 0, 10), NONE);
        RouteStrides y = worked();
        farOnes("would, length", odd -> y.would(0, odd, 1, 1), NONE);
        due("would, gate MIN", y.would(0, 0, Integer.MIN_VALUE, 0), NONE);
        due("would, port MAX", y.would(0, 0, 0, Integer.MAX_VALUE), NONE);
    }

    @Of(promise = 16, sentence = "Of RULES in a BEGINNING (with one of itself) the k-th's number, k NONE: how many;")
    static void withinBeginnings() {
        RouteStrides x = of("0.0.0.0/0=1 1;0.0.0.0/1=1 1;0.0.0.0/32=1 1;127.255.255.255/32=1 1;128.0.0.0/1=1 1;255.255.255.255/32=1 1");
        due("all", x.within(0, 0, NONE), 6);
        due("all, the first", x.within(0, 0, 0), 0);
        due("all, the last", x.within(0, 0, 5), 5);
        due("the lower half", x.within(0, 1, NONE), 3);
        due("the lower half, the first", x.within(0, 1, 0), 1);
        due("the lower half, the last", x.within(0, 1, 2), 3);
        due("the upper half", x.within(HIGH, 1, NONE), 2);
        due("the upper half, the last", x.within(HIGH, 1, 1), 5);
        due("the last address", x.within(-1, 32, NONE), 1);
        due("the last address", x.within(-1, 32, 0), 5);
        due("the first address", x.within(0, 32, NONE), 1);
        due("the first address", x.within(0, 32, 0), 2);
        due("two bits of 0: not the half", x.within(0, 2, NONE), 1);
        due("none", x.within(-2, 32, NONE), 0);
        due("none of no rules", new RouteStrides().within(0, 0, NONE), 0);
        due("60", full().within(0, 0, NONE), 60);
        due("the last of 60", full().within(0, 24, 59), 59);
    }

    @Of(promise = 16, sentence = "-2: there are not so many.")
    static void withinNotSoMany() {
        RouteStrides x = bothEnds();
        due("two", x.within(0, 0, 2), -2);
        due("one", x.within(0, 1, 1), -2);
        due("none", x.within(1, 32, 0), -2);
        due("MAX", x.within(0, 0, Integer.MAX_VALUE), -2);
        due("60", full().within(0, 0, 60), -2);
        due("of no rules", new RouteStrides().within(0, 0, 0), -2);
    }

    @Of(promise = 16, sentence = "NONE for no BEGINNING, k below NONE.")
    static void withinNothing() {
        RouteStrides x = bothEnds();
        due("k -2", x.within(0, 0, -2), NONE);
        due("k MIN", x.within(0, 0, Integer.MIN_VALUE), NONE);
        due("length 33", x.within(0, 33, 0), NONE);
        due("length -1", x.within(0, -1, NONE), NONE);
        due("a bit behind", x.within(-1, 31, 0), NONE);
        due("a bit behind 0", x.within(HIGH, 0, NONE), NONE);
        due("both", x.within(HIGH, 0, -2), NONE);
        farOnes("within, length", odd -> x.within(0, odd, NONE), NONE);
    }

    @Of(promise = 17, sentence = "Of ADDRESSES that have another GATE or PORT than by what is KEPT (also if one has none by one of both) what 0: how many,")
    static void differsAtTheEdges() {
        RouteStrides x = new RouteStrides();
        x.keep(0);
        due("nothing", x.differs(0, 0), 0);
        x.add(0, 0, 1, 1);
        due("all, none when kept", x.differs(0, 0), 4294967296L);
        x.keep(1);
        due("none of the other shelf", x.differs(1, 0), 0);
        x.add(0, 0, 1, 2);
        due("all, another port", x.differs(1, 0), 4294967296L);
        x.add(0, 0, 2, 1);
        due("all, another gate", x.differs(1, 0), 4294967296L);
        x.withdraw(0, 0);
        due("all, none now", x.differs(1, 0), 4294967296L);
        due("nothing", x.differs(0, 0), 0);
        x.add(-1, 32, 1, 1);
        due("one", x.differs(0, 0), 1);
        due("all but one", x.differs(1, 0), 4294967295L);
        // Hops are held against one another by gate and port, not by number.
        RouteStrides y = of("0.0.0.0/1=1 1;128.0.0.0/1=2 2");
        y.keep(0);
        y.withdraw(0, 1);
        y.add(0, 1, 2, 2);
        y.add(HIGH, 1, 1, 1);
        due("ways turned round", y.differs(0, 0), 4294967296L);
        y.add(HIGH, 1, 2, 2);
        y.add(0, 1, 1, 1);
        due("the same ways by other numbers", y.differs(0, 0), 0);
    }

    @Of(promise = 17, sentence = "1: the first (without sign; -2: none).")
    static void firstThatDiffers() {
        RouteStrides x = new RouteStrides();
        x.keep(0);
        due("none", x.differs(0, 1), -2);
        x.add(-1, 32, 1, 1);
        due("the last one", x.differs(0, 1), 4294967295L);
        x.add(HIGH, 32, 1, 1);
        due("the middle", x.differs(0, 1), 2147483648L);
        x.add(Integer.MAX_VALUE, 32, 1, 1);
        due("ahead of the middle", x.differs(0, 1), 2147483647L);
        x.add(0, 32, 1, 1);
        due("the first one", x.differs(0, 1), 0);
        x.keep(0);
        due("none", x.differs(0, 1), -2);
    }

    @Of(promise = 17, sentence = "NONE for others, without that SHELF, or if nothing is KEPT.")
    static void differsFromNothing() {
        RouteStrides x = worked();
        due("shelf 0, nothing kept", x.differs(0, 0), NONE);
        due("shelf 0, nothing kept", x.differs(0, 1), NONE);
        due("shelf 1", x.differs(1, 0), 1 << 23);
        due("what 2", x.differs(1, 2), NONE);
        due("what -1", x.differs(1, -1), NONE);
        due("shelf 2", x.differs(2, 0), NONE);
        due("shelf -1", x.differs(-1, 0), NONE);
        due("shelf 33", x.differs(33, 0), NONE);
        due("shelf -31", x.differs(-31, 0), NONE);
        farOnes("differs(1, )", what -> x.differs(1, what), NONE);
        farOnes("differs( , 0)", shelf -> x.differs(shelf, 0), NONE);
    }

    // ---- promises 18 to 21: rules and hops

    @Of(promise = 18, sentence = "Of the k-th RULE what 0: VALUE, 1: LENGTH, 2: HOP, 3: whether it is IDLE (1, 0),")
    static void rulesAtTheEdges() {
        RouteStrides x = of("0.0.0.0/0=1 1;0.0.0.0/1=2 2;128.0.0.0/1=3 3;255.255.255.255/32=1 1");
        int[][] want = {{0, 0, 0, 1}, {0, 1, 1, 0}, {HIGH, 1, 2, 0}, {-1, 32, 0, 0}};
        for (int k = 0; k < 4; k++) {
            for (int what = 0; what < 4; what++) {
                due("rule(" + k + ", " + what + ")", x.rule(k, what), want[k][what]);
            }
        }
        RouteStrides f = full();
        due("the last of 60, VALUE", f.rule(59, 0), 236);
        due("the last of 60, LENGTH", f.rule(59, 1), 30);
        due("the last of 60, HOP", f.rule(59, 2), 59);
        due("the last of 60, idle", f.rule(59, 3), 0);
        due("the last of 60, around it", f.rule(59, 4), -1);
        // A rule whose last address is taken by a longer one.
        RouteStrides y = of("0.0.0.0/31=1 1;0.0.0.0/32=1 1");
        due("one address left", y.rule(0, 3), 0);
        y.add(1, 32, 1, 1);
        due("no address left", y.rule(0, 3), 1);
    }

    @Of(promise = 18, sentence = "4: of the RULES in whose BEGINNING its own lies (but itself) that of the greatest LENGTH (-1: none).")
    static void rulesAround() {
        RouteStrides x = new RouteStrides();
        for (int length = 0; length <= 32; length++) {
            x.add(0, length, 1, 1);
        }
        for (int k = 0; k <= 32; k++) {
            due("rule(" + k + ", 4)", x.rule(k, 4), k - 1);
        }
        x.add(-1, 32, 1, 1);
        due("in 0/0 alone", x.rule(33, 4), 0);
        x.withdraw(0, 0);
        due("in none", x.rule(32, 4), -1);
        // 192/2 lies not in 128/2, which stands ahead of it.
        RouteStrides y = of("128.0.0.0/1=1 1;128.0.0.0/2=1 1;192.0.0.0/2=1 1");
        due("beside one", y.rule(2, 4), 0);
    }

    @Of(promise = 18, sentence = "Without these -2 (what 0: 0).")
    static void noRules() {
        RouteStrides[] tables = {new RouteStrides(), bothEnds(), full()};
        int[] counts = {0, 2, 60};
        for (int i = 0; i < tables.length; i++) {
            RouteStrides x = tables[i];
            int[] none = {-1, counts[i], counts[i] + 1, 60, 61};
            for (int k : none) {
                due("rule(" + k + ", 0)", x.rule(k, 0), 0);
                for (int what = 1; what <= 5; what++) {
                    due("rule(" + k + ", " + what + ")", x.rule(k, what), -2);
                }
                due("rule(" + k + ", -1)", x.rule(k, -1), -2);
            }
            farOnes("rule( , 0)", k -> x.rule(k, 0), 0);
            farOnes("rule( , 1)", k -> x.rule(k, 1), -2);
            farOnes("rule( , 3)", k -> x.rule(k, 3), -2);
        }
        due("rule(0, 5)", tables[1].rule(0, 5), -2);
        due("rule(0, -1)", tables[1].rule(0, -1), -2);
        farOnes("rule(0, )", what -> tables[1].rule(0, what), -2);
    }

    @Of(promise = 19, sentence = "How many ADDRESSES the k-th RULE serves;")
    static void servesAtTheEdges() {
        due("all", of("0.0.0.0/0=1 1").served(0), 4294967296L);
        RouteStrides x = of("0.0.0.0/0=1 1;255.255.255.255/32=1 1;0.0.0.0/32=1 1");
        due("all but two, though of the same hop", x.served(0), 4294967294L);
        due("one", x.served(1), 1);
        due("one", x.served(2), 1);
        RouteStrides y = of("0.0.0.0/0=1 1;0.0.0.0/1=1 1;128.0.0.0/1=2 2");
        due("none", y.served(0), 0);
        due("half", y.served(2), 2147483648L);
        due("the last of 60", full().served(59), 4);
    }

    @Of(promise = 19, sentence = "NONE without it.")
    static void servesNothing() {
        RouteStrides x = bothEnds();
        due("served(-1)", x.served(-1), NONE);
        due("served(2)", x.served(2), NONE);
        due("served(60)", full().served(60), NONE);
        due("served(0) of no rules", new RouteStrides().served(0), NONE);
        farOnes("served", x::served, NONE);
    }

    @Of(promise = 20, sentence = "Of a HOP what 0: GATE, 1: PORT, 2: how many RULES have it.")
    static void hopsAtTheEdges() {
        RouteStrides x = of("0.0.0.0/0=0 0;1.0.0.0/8=99 9;2.0.0.0/8=0 9;3.0.0.0/8=99 0;4.0.0.0/8=0 0");
        int[][] want = {{0, 0, 2}, {99, 9, 1}, {0, 9, 1}, {99, 0, 1}};
        for (int hop = 0; hop < 4; hop++) {
            for (int what = 0; what < 3; what++) {
                due("hop(" + hop + ", " + what + ")", x.hop(hop, what), want[hop][what]);
            }
        }
        RouteStrides y = new RouteStrides();
        for (int i = 0; i < 60; i++) {
            y.add(i, 32, 99, 9);
        }
        due("60 rules have it", y.hop(0, 2), 60);
        due("hop 59 of 60", full().hop(59, 0), 59);
    }

    @Of(promise = 20, sentence = "NONE without these.")
    static void noHops() {
        RouteStrides x = of("1.0.0.0/8=1 1;2.0.0.0/8=2 2");
        x.withdraw(ip(1, 0, 0, 0), 8);
        for (int what = 0; what < 3; what++) {
            due("hop(0, " + what + "), which is gone", x.hop(0, what), NONE);
            due("hop(2, " + what + ")", x.hop(2, what), NONE);
            due("hop(-1, " + what + ")", x.hop(-1, what), NONE);
            due("hop(60, " + what + ")", full().hop(60, what), NONE);
            due("hop(0, " + what + ") of no rules", new RouteStrides().hop(0, what), NONE);
        }
        due("hop(1, 3)", x.hop(1, 3), NONE);
        due("hop(1, -1)", x.hop(1, -1), NONE);
        farOnes("hop( , 0)", hop -> x.hop(hop, 0), NONE);
        farOnes("hop(1, )", what -> x.hop(1, what), NONE);
    }

    @Of(promise = 21, sentence = "How many ADDRESSES have a HOP (NONE: none at all);")
    static void reachesAtTheEdges() {
        due("NONE of no rules", new RouteStrides().reach(NONE), 4294967296L);
        RouteStrides x = of("0.0.0.0/0=1 1");
        due("all", x.reach(0), 4294967296L);
        due("NONE of a rule for all", x.reach(NONE), 0);
        x.add(0, 1, 2, 2);
        x.add(HIGH, 1, 2, 2);
        due("of an idle rule", x.reach(0), 0);
        due("of two rules", x.reach(1), 4294967296L);
        due("both ends", bothEnds().reach(0), 2);
        due("NONE between the ends", bothEnds().reach(NONE), 4294967294L);
        due("the last of 60", full().reach(59), 4);
    }

    @Of(promise = 21, sentence = "-2 without it.")
    static void reachesNothing() {
        RouteStrides x = of("1.0.0.0/8=1 1;2.0.0.0/8=2 2");
        x.withdraw(ip(1, 0, 0, 0), 8);
        due("reach(0), which is gone", x.reach(0), -2);
        due("reach(2)", x.reach(2), -2);
        due("reach(-2)", x.reach(-2), -2);
        due("reach(60)", full().reach(60), -2);
        due("reach(0) of no rules", new RouteStrides().reach(0), -2);
        farOnes("reach", x::reach, -2);
    }

    // ---- promises 22 to 26: nodes

    @Of(promise = 22, sentence = "Of a NODE what 0: CHILD bits, 1: RUN bits, 2: LEVEL, 3: VALUE (without sign), 4: how many are STORED, 5: the NODE that leads to it (-1: none).")
    static void nodesAtTheEdges() {
        RouteStrides x = bothEnds();
        long[][] want = {{1 | 1 << 15, 2, 0, 0, 1, -1}, {1, 2, 1, 0, 1, 0}, {1 << 15, 1, 1, 0xF0000000L, 1, 0}};
        for (int n = 0; n < want.length; n++) {
            for (int what = 0; what < 6; what++) {
                due("node(" + n + ", " + what + ")", x.node(n, what), want[n][what]);
            }
        }
        long[][] last = {{0, 3, 7, 0, 2, 11}, {0, 1 | 1 << 15, 7, 0xFFFFFFF0L, 2, 12}};
        for (int n = 0; n < last.length; n++) {
            for (int what = 0; what < 6; what++) {
                due("node(" + (13 + n) + ", " + what + ")", x.node(13 + n, what), last[n][what]);
            }
        }
        x.strides(666662);
        due("64 slots, CHILD bits", x.node(0, 0), 1 | 1L << 63);
        due("4 slots, RUN bits", x.node(10, 1), 1 | 8);
        due("the last VALUE", x.node(10, 3), 0xFFFFFFFCL);
        long[] empty = {0, 1, 0, 0, 1, -1};
        for (int what = 0; what < 6; what++) {
            due("node(0, " + what + ") of no rules", new RouteStrides().node(0, what), empty[what]);
        }
    }

    @Of(promise = 22, sentence = "Without these -2 (what 0, 1: 0).")
    static void noNodes() {
        RouteStrides[] tables = {new RouteStrides(), bothEnds()};
        int[] counts = {1, 15};
        for (int i = 0; i < tables.length; i++) {
            RouteStrides x = tables[i];
            int[] none = {-1, counts[i], counts[i] + 1, 901, 902};
            for (int n : none) {
                due("node(" + n + ", 0)", x.node(n, 0), 0);
                due("node(" + n + ", 1)", x.node(n, 1), 0);
                for (int what = 2; what <= 6; what++) {
                    due("node(" + n + ", " + what + ")", x.node(n, what), -2);
                }
                due("node(" + n + ", -1)", x.node(n, -1), -2);
            }
            due("node(0, 6)", x.node(0, 6), -2);
            due("node(0, -1)", x.node(0, -1), -2);
            farOnes("node( , 0)", n -> x.node(n, 0), 0);
            farOnes("node( , 1)", n -> x.node(n, 1), 0);
            farOnes("node( , 2)", n -> x.node(n, 2), -2);
            farOnes("node(0, )", what -> x.node(0, what), -2);
        }
    }

    @Of(promise = 23, sentence = "The i-th HOP STORED of a NODE;")
    static void storedAtTheEdges() {
        due("of no rules", new RouteStrides().stored(0, 0), NONE);
        RouteStrides x = bothEnds();
        due("the last node, first", x.stored(14, 0), NONE);
        due("the last node, last", x.stored(14, 1), 0);
        RouteStrides y = new RouteStrides();
        y.strides(666662);
        for (int slot = 1; slot < 64; slot += 2) {
            y.add(slot << 26, 6, slot, 0);
        }
        for (int i = 0; i < 64; i++) {
            due("stored(0, " + i + ")", y.stored(0, i), i % 2 == 0 ? NONE : i / 2);
        }
    }

    @Of(promise = 23, sentence = "-2 without these.")
    static void storedNowhere() {
        RouteStrides x = bothEnds();
        due("stored(0, 1)", x.stored(0, 1), -2);
        due("stored(14, 2)", x.stored(14, 2), -2);
        due("stored(13, 2), where the next node's stand", x.stored(13, 2), -2);
        due("stored(1, -1), where the last node's stand", x.stored(1, -1), -2);
        due("stored(-1, 0)", x.stored(-1, 0), -2);
        due("stored(15, 0)", x.stored(15, 0), -2);
        due("stored(0, 1) of no rules", new RouteStrides().stored(0, 1), -2);
        farOnes("stored( , 0)", n -> x.stored(n, 0), -2);
        farOnes("stored(0, )", i -> x.stored(0, i), -2);
        // A node all of whose slots lead on has none.
        RouteStrides y = of("0.0.0.0/3=1 1;64.0.0.0/3=1 1;128.0.0.0/3=1 1;192.0.0.0/3=1 1;strides 2 6 6 6 6 6");
        due("stored(0, 0)", y.stored(0, 0), -2);
        due("stored(1, 0)", y.stored(1, 0), 0);
    }

    @Of(promise = 24, sentence = "Of a SLOT of a NODE what 0: the NODE it leads to (-1: it is a LEAF), 1: its HOP (of one that leads on -2).")
    static void slotsAtTheEdges() {
        RouteStrides x = bothEnds();
        due("slot(0, 0, 0)", x.slot(0, 0, 0), 1);
        due("slot(0, 15, 0)", x.slot(0, 15, 0), 2);
        due("slot(0, 0, 1)", x.slot(0, 0, 1), -2);
        due("slot(0, 15, 1)", x.slot(0, 15, 1), -2);
        due("slot(0, 1, 0)", x.slot(0, 1, 0), -1);
        due("slot(0, 14, 1)", x.slot(0, 14, 1), NONE);
        due("slot(13, 0, 0)", x.slot(13, 0, 0), -1);
        due("slot(13, 0, 1)", x.slot(13, 0, 1), 0);
        due("slot(13, 1, 1)", x.slot(13, 1, 1), NONE);
        due("slot(14, 15, 1)", x.slot(14, 15, 1), 0);
        due("slot(12, 15, 0)", x.slot(12, 15, 0), 14);
        x.strides(666662);
        due("slot(0, 63, 0)", x.slot(0, 63, 0), 2);
        due("slot(0, 62, 1)", x.slot(0, 62, 1), NONE);
        due("slot(10, 3, 1)", x.slot(10, 3, 1), 0);
    }

    @Of(promise = 24, sentence = "-3 without these.")
    static void noSlots() {
        RouteStrides x = bothEnds();
        for (int what = 0; what <= 1; what++) {
            due("slot(0, 16)", x.slot(0, 16, what), -3);
            due("slot(0, -1)", x.slot(0, -1, what), -3);
            due("slot(15, 0)", x.slot(15, 0, what), -3);
            due("slot(-1, 0)", x.slot(-1, 0, what), -3);
        }
        due("what 2", x.slot(0, 0, 2), -3);
        due("what -1", x.slot(0, 0, -1), -3);
        due("what 2 of a leaf", x.slot(0, 1, 2), -3);
        farOnes("slot( , 0, 0)", n -> x.slot(n, 0, 0), -3);
        farOnes("slot(0, , 0)", slot -> x.slot(0, slot, 0), -3);
        farOnes("slot(0, , 1)", slot -> x.slot(0, slot, 1), -3);
        farOnes("slot(0, 0, )", what -> x.slot(0, 0, what), -3);
        // The last level of 666662 has 4 slots, the first 64.
        x.strides(666662);
        due("slot(10, 4, 1)", x.slot(10, 4, 1), -3);
        due("slot(0, 64, 1)", x.slot(0, 64, 1), -3);
    }

    @Of(promise = 25, sentence = "Whether two NODES of one LEVEL are LIKE (1, 0);")
    static void likeAtTheEdges() {
        due("of no rules", new RouteStrides().alike(0, 0), 1);
        RouteStrides x = bothEnds();
        due("itself, the last", x.alike(14, 14), 1);
        due("the ends are not", x.alike(13, 14), 0);
        due("nor what leads to them", x.alike(1, 2), 0);
        // 60 addresses, each the first of its node: all nodes of a level but the first are like.
        RouteStrides y = new RouteStrides();
        y.strides(266666);
        for (int i = 0; i < 60; i++) {
            y.add(i << 26, 32, 1, 1);
        }
        int nodes = y.count(3);
        due("nodes", nodes, 1 + 4 + 4 * 60);
        due("the first and the last of the last level", y.alike(nodes - 60, nodes - 1), 1);
        due("the other way round", y.alike(nodes - 1, nodes - 60), 1);
        due("of level 1 the last is another", y.alike(1, 4), 0);
        due("of level 1 the first ones are like", y.alike(1, 3), 1);
        due("count(4)", y.count(4), 1 + 2 + 4);
    }

    @Of(promise = 25, sentence = "NONE without these.")
    static void likeNothing() {
        RouteStrides x = bothEnds();
        due("of two levels", x.alike(0, 1), NONE);
        due("of two levels, whose bits are the same", x.alike(1, 3), NONE);
        due("alike(-1, 0)", x.alike(-1, 0), NONE);
        due("alike(0, -1)", x.alike(0, -1), NONE);
        due("alike(-1, -1)", x.alike(-1, -1), NONE);
        due("alike(14, 15)", x.alike(14, 15), NONE);
        due("alike(15, 14)", x.alike(15, 14), NONE);
        due("alike(15, 15)", x.alike(15, 15), NONE);
        farOnes("alike(0, )", n -> x.alike(0, n), NONE);
        farOnes("alike( , 0)", n -> x.alike(n, 0), NONE);
    }

    @Of(promise = 26, sentence = "Of a LEVEL what 0: STRIDE, 1: NODES, 2: HOPS STORED by these, 3: unlike NODES.")
    static void levelsAtTheEdges() {
        RouteStrides x = of("0.0.0.0/32=1 1;255.255.255.255/32=1 1;128.0.0.0/32=1 1");
        int[] first = {4, 1, 1, 1};
        int[] inner = {4, 3, 3, 2};
        int[] last = {4, 3, 6, 2};
        for (int what = 0; what < 4; what++) {
            due("level(0, " + what + ")", x.level(0, what), first[what]);
            due("level(1, " + what + ")", x.level(1, what), inner[what]);
            due("level(6, " + what + ")", x.level(6, what), inner[what]);
            due("level(7, " + what + ")", x.level(7, what), last[what]);
        }
        RouteStrides y = new RouteStrides();
        int[] there = {4, 1, 1, 1};
        int[] empty = {4, 0, 0, 0};
        for (int what = 0; what < 4; what++) {
            due("of no rules, level(0, " + what + ")", y.level(0, what), there[what]);
            due("of no rules, level(1, " + what + ")", y.level(1, what), empty[what]);
            due("of no rules, level(7, " + what + ")", y.level(7, what), empty[what]);
        }
        y.strides(2222222222222222L);
        due("level(15, 0)", y.level(15, 0), 2);
        y.add(-1, 32, 1, 1);
        due("level(15, 1)", y.level(15, 1), 1);
        due("level(15, 2)", y.level(15, 2), 2);
        due("level(15, 3)", y.level(15, 3), 1);
    }

    @Of(promise = 26, sentence = "NONE without these.")
    static void noLevels() {
        RouteStrides x = bothEnds();
        for (int what = 0; what < 4; what++) {
            due("level(8, " + what + ")", x.level(8, what), NONE);
            due("level(-1, " + what + ")", x.level(-1, what), NONE);
        }
        due("level(0, 4)", x.level(0, 4), NONE);
        due("level(0, -1)", x.level(0, -1), NONE);
        farOnes("level( , 0)", level -> x.level(level, 0), NONE);
        farOnes("level(0, )", what -> x.level(0, what), NONE);
        x.strides(266666);
        due("level(6, 0) of six", x.level(6, 0), NONE);
        due("level(5, 0) of six", x.level(5, 0), 6);
        x.strides(2222222222222222L);
        due("level(16, 0) of sixteen", x.level(16, 0), NONE);
        due("level(16, 1) of sixteen", x.level(16, 1), NONE);
    }

    // ---- promises 27 to 31: spans, ranges, strides, the fewest

    @Of(promise = 27, sentence = "Of the k-th SPAN what 0: its first ADDRESS (without sign), 1: its last one (likewise), 2: its HOP.")
    static void spansAtTheEdges() {
        RouteStrides x = bothEnds();
        long[][] want = {{0, 0, 0}, {1, 0xFFFFFFFEL, -1}, {0xFFFFFFFFL, 0xFFFFFFFFL, 0}};
        for (int k = 0; k < 3; k++) {
            for (int what = 0; what < 3; what++) {
                due("span(" + k + ", " + what + ")", x.span(k, what), want[k][what]);
            }
        }
        RouteStrides y = of("0.0.0.0/0=1 1;127.255.255.255/32=2 2;128.0.0.0/32=2 2");
        due("count(6)", y.count(6), 3);
        due("over the middle, from", y.span(1, 0), 0x7FFFFFFFL);
        due("over the middle, to", y.span(1, 1), 0x80000000L);
        due("over the middle, hop", y.span(1, 2), 1);
    }

    @Of(promise = 27, sentence = "-2 without these.")
    static void noSpans() {
        RouteStrides x = bothEnds();
        for (int what = 0; what < 3; what++) {
            due("span(3, " + what + ")", x.span(3, what), -2);
            due("span(-1, " + what + ")", x.span(-1, what), -2);
            due("span(1, " + what + ") of no rules", new RouteStrides().span(1, what), -2);
        }
        due("span(0, 3)", x.span(0, 3), -2);
        due("span(0, -1)", x.span(0, -1), -2);
        farOnes("span( , 0)", k -> x.span(k, 0), -2);
        farOnes("span(0, )", what -> x.span(0, what), -2);
    }

    @Of(promise = 28, sentence = "Of the k-th BEGINNING of a RANGE what 0: LENGTH, 1: VALUE (without sign), k NONE: how many (what 0).")
    static void coversAtTheEdges() {
        RouteStrides x = full();
        due("all, how many", x.cover(0, -1, NONE, 0), 1);
        due("all, length", x.cover(0, -1, 0, 0), 0);
        due("all, value", x.cover(0, -1, 0, 1), 0);
        due("all but both ends, how many", x.cover(1, -2, NONE, 0), 62);
        for (int k = 0; k < 31; k++) {
            due("length " + k, x.cover(1, -2, k, 0), 32 - k);
            due("value " + k, x.cover(1, -2, k, 1), 1L << k);
            due("length " + (61 - k), x.cover(1, -2, 61 - k, 0), 32 - k);
            due("value " + (61 - k), x.cover(1, -2, 61 - k, 1), 0xFFFFFFFFL - (2L << k) + 1);
        }
        due("the last address", x.cover(-1, -1, 0, 1), 0xFFFFFFFFL);
        due("the upper half", x.cover(HIGH, -1, 0, 0), 1);
        due("the upper half", x.cover(HIGH, -1, 0, 1), 2147483648L);
    }

    @Of(promise = 28, sentence = "-2 without these (the first ADDRESS above the second one, too).")
    static void noCovers() {
        RouteStrides x = new RouteStrides();
        due("above", x.cover(1, 0, NONE, 0), -2);
        due("above", x.cover(1, 0, 0, 0), -2);
        due("above without sign", x.cover(-1, 0, NONE, 0), -2);
        due("above without sign", x.cover(HIGH, Integer.MAX_VALUE, 0, 1), -2);
        due("k 1 of one", x.cover(0, -1, 1, 0), -2);
        due("k 62 of 62", x.cover(1, -2, 62, 0), -2);
        due("k 63 of 62", x.cover(1, -2, 63, 1), -2);
        due("k 64 of 62", x.cover(1, -2, 64, 1), -2);
        due("k -2", x.cover(0, -1, -2, 0), -2);
        due("k NONE, what 1", x.cover(0, -1, NONE, 1), -2);
        due("k NONE, what -1", x.cover(0, -1, NONE, -1), -2);
        due("k NONE, what 2", x.cover(0, -1, NONE, 2), -2);
        due("what 2", x.cover(0, -1, 0, 2), -2);
        due("what -1", x.cover(0, -1, 0, -1), -2);
        farOnes("cover(1, -2, , 0)", k -> x.cover(1, -2, k, 0), -2);
        farOnes("cover(1, -2, 0, )", what -> x.cover(1, -2, 0, what), -2);
    }

    @Of(promise = 29, sentence = "Of the fewest BEGINNINGS in which just the ADDRESSES that have a HOP (NONE: none) lie, rising, what 0: LENGTH of the k-th, 1: its VALUE (without sign), k NONE: how many (what 0).")
    static void ownsAtTheEdges() {
        RouteStrides x = bothEnds();
        due("both ends, how many", x.own(0, NONE, 0), 2);
        due("both ends, first", x.own(0, 0, 1), 0);
        due("both ends, last", x.own(0, 1, 1), 0xFFFFFFFFL);
        due("both ends, last, length", x.own(0, 1, 0), 32);
        due("none, how many", x.own(NONE, NONE, 0), 62);
        due("none, the first", x.own(NONE, 0, 1), 1);
        due("none, the last", x.own(NONE, 61, 1), 0xFFFFFFFEL);
        RouteStrides y = of("0.0.0.0/0=1 1");
        due("all, how many", y.own(0, NONE, 0), 1);
        due("all, length", y.own(0, 0, 0), 0);
        due("all, none of none", y.own(NONE, NONE, 0), 0);
        y.add(0, 1, 2, 2);
        y.add(HIGH, 1, 2, 2);
        due("an idle hop", y.own(0, NONE, 0), 0);
        due("two halves are one", y.own(1, NONE, 0), 1);
        due("two halves are one, length", y.own(1, 0, 0), 0);
        // Both sides of 127.255.255.255: as many BEGINNINGS as bits.
        RouteStrides z = of("0.0.0.0/0=1 1;127.255.255.255/32=2 2");
        due("all but one, how many", z.own(0, NONE, 0), 32);
        due("all but one, the last", z.own(0, 31, 1), 2147483648L);
        due("all but one, the last, length", z.own(0, 31, 0), 1);
        due("all but one, the one ahead", z.own(0, 30, 1), 0x7FFFFFFEL);
    }

    @Of(promise = 29, sentence = "-2 without these.")
    static void ownsNothing() {
        RouteStrides x = bothEnds();
        due("hop 1", x.own(1, NONE, 0), -2);
        due("hop -2", x.own(-2, NONE, 0), -2);
        due("hop 60", x.own(60, 0, 0), -2);
        due("k 2 of two", x.own(0, 2, 0), -2);
        due("k 62 of 62", x.own(NONE, 62, 1), -2);
        due("k -2", x.own(0, -2, 0), -2);
        due("k NONE, what 1", x.own(0, NONE, 1), -2);
        due("k NONE, what -1", x.own(0, NONE, -1), -2);
        due("what 2", x.own(0, 0, 2), -2);
        due("what -1", x.own(0, 0, -1), -2);
        RouteStrides y = of("0.0.0.0/0=1 1");
        due("k 0 of none", y.own(NONE, 0, 0), -2);
        due("hop 0 of no rules", new RouteStrides().own(0, NONE, 0), -2);
        farOnes("own( , 0, 0)", hop -> x.own(hop, 0, 0), -2);
        farOnes("own(0, , 0)", k -> x.own(0, k, 0), -2);
        farOnes("own(0, 0, )", what -> x.own(0, 0, what), -2);
    }

    @Of(promise = 30, sentence = "Of all rows of strides (2 to 6, 32 together) of m (6 to 16) at most the one by which all NODES would have the fewest SLOTS together, of like ones that of the fewest strides, then the least as a number, what 0: these SLOTS, 1: the strides as digits of a number.")
    static void bestAtTheEdges() {
        RouteStrides x = new RouteStrides();
        due("m 6, no rules", x.best(6, 0), 4);
        due("m 6, no rules", x.best(6, 1), 266666);
        due("m 16, no rules", x.best(16, 0), 4);
        due("m 16, the fewest strides", x.best(16, 1), 266666);
        x.add(0, 32, 1, 1);
        // A node of each level: the sum of 2^stride is least of strides that are nearly as great as one another.
        long[] slots = {256, 176, 128, 112, 96, 84, 80, 76, 72, 68, 64};
        long[] rows = {555566, 4445555, 44444444, 333344444, 3333333344L, 23333333333L, 222233333333L, 2222222333333L,
            22222222223333L, 222222222222233L, 2222222222222222L};
        for (int m = 6; m <= 16; m++) {
            due("m " + m + ", slots", x.best(m, 0), slots[m - 6]);
            due("m " + m + ", strides", x.best(m, 1), rows[m - 6]);
        }
        due("strides as they are don't count", x.strides(2222222222222222L), 16);
        due("m 8 again", x.best(8, 1), 44444444);
        // Two halves need no node but the first one; both ends need two of each level behind it.
        due("two ends of spans in one beginning", of("0.0.0.1/32=1 1").best(16, 0), 64);
        due("two halves", of("128.0.0.0/1=1 1").best(16, 0), 4);
        due("two halves", of("128.0.0.0/1=1 1").best(16, 1), 266666);
        due("four quarters", of("64.0.0.0/2=1 1;192.0.0.0/2=1 1").best(16, 0), 4);
        due("both ends", bothEnds().best(16, 0), 4 + 15 * 8);
        due("both ends", bothEnds().best(16, 1), 2222222222222222L);
        RouteStrides shrunk = bothEnds();
        due("both ends", shrunk.best(16, 0), 124);
        shrunk.withdraw(-1, 32);
        due("one end is left", shrunk.best(16, 0), 64);
        shrunk.withdraw(0, 32);
        due("none is left", shrunk.best(16, 0), 4);
        // 64 slots of one node; 4 and then 4 nodes of 16 would be 68. What is left has no nodes.
        RouteStrides y = new RouteStrides();
        for (int i = 0; i < 60; i++) {
            y.add(i << 26, 6, i % 2, 0);
        }
        due("60 of 6 bits", y.best(16, 0), 64);
        due("60 of 6 bits", y.best(16, 1), 626666);
        due("60 of 6 bits, m 6", y.best(6, 1), 626666);
    }

    @Of(promise = 30, sentence = "NONE for others.")
    static void noBest() {
        RouteStrides x = bothEnds();
        due("m 5", x.best(5, 0), NONE);
        due("m 17", x.best(17, 1), NONE);
        due("m 0", x.best(0, 0), NONE);
        due("m -6", x.best(-6, 0), NONE);
        due("what 2", x.best(6, 2), NONE);
        due("what -1", x.best(16, -1), NONE);
        farOnes("best( , 0)", m -> x.best(m, 0), NONE);
        farOnes("best(6, )", what -> x.best(6, what), NONE);
    }

    @Of(promise = 31, sentence = "Of the k-th RULE of THE FEWEST (by VALUES, then LENGTHS) what 0: LENGTH, 1: VALUE (without sign), 2: HOP, k NONE: how many (what 0).")
    static void fewestAtTheEdges() {
        due("of no rules", new RouteStrides().fewest(NONE, 0), 0);
        RouteStrides x = bothEnds();
        due("how many", x.fewest(NONE, 0), 2);
        due("the first", x.fewest(0, 1), 0);
        due("the last", x.fewest(1, 1), 0xFFFFFFFFL);
        due("the last, length", x.fewest(1, 0), 32);
        due("the last, hop", x.fewest(1, 2), 0);
        RouteStrides y = of("0.0.0.0/0=1 1;0.0.0.0/1=1 1;128.0.0.0/1=1 1");
        due("one for all", y.fewest(NONE, 0), 1);
        due("one for all, length", y.fewest(0, 0), 0);
        // All but the last address: 0/0, and a rule of none for it.
        RouteStrides z = new RouteStrides();
        z.range(0, -2, 1, 1);
        due("all but one", z.fewest(NONE, 0), 2);
        due("all but one, hop", z.fewest(0, 2), 0);
        due("the one, value", z.fewest(1, 1), 0xFFFFFFFFL);
        due("the one, hop", z.fewest(1, 2), NONE);
        // 60 addresses with none between them need 60 rules.
        RouteStrides f = new RouteStrides();
        for (int i = 0; i < 60; i++) {
            f.add(4 * i + 1, 32, i, 0);
        }
        due("60", f.fewest(NONE, 0), 60);
        for (int k = 0; k < 60; k++) {
            due("value " + k, f.fewest(k, 1), 4 * k + 1);
            due("hop " + k, f.fewest(k, 2), k);
        }
        due("60 already", f.gather(), -3);
        // As far from one another as they can be.
        RouteStrides h = new RouteStrides();
        for (int i = 0; i < 60; i++) {
            h.add(i << 26 | 1, 32, i, 0);
        }
        due("60 far ones", h.fewest(NONE, 0), 60);
        due("60 far ones, the last", h.fewest(59, 1), 59L << 26 | 1);
        due("60 far ones already", h.gather(), -3);
        // Of one VALUE the shorter one stands first.
        RouteStrides g = of("0.0.0.0/1=1 1;0.0.0.0/2=2 2;128.0.0.0/1=1 1");
        due("0/0", g.fewest(0, 0), 0);
        due("0/2", g.fewest(1, 0), 2);
    }

    @Of(promise = 31, sentence = "-2 without these.")
    static void noFewest() {
        RouteStrides x = bothEnds();
        for (int what = 0; what < 3; what++) {
            due("k 2 of two", x.fewest(2, what), -2);
            due("k -2", x.fewest(-2, what), -2);
            due("k 0 of no rules", new RouteStrides().fewest(0, what), -2);
        }
        due("k NONE, what 1", x.fewest(NONE, 1), -2);
        due("k NONE, what 2", x.fewest(NONE, 2), -2);
        due("k NONE, what -1", x.fewest(NONE, -1), -2);
        due("what 3", x.fewest(0, 3), -2);
        due("what -1", x.fewest(0, -1), -2);
        due("k 60", full().fewest(60, 0), -2);
        farOnes("fewest( , 0)", k -> x.fewest(k, 0), -2);
        farOnes("fewest(0, )", what -> x.fewest(0, what), -2);
    }

    // ---- promises 32 and 33

    @Of(promise = 32, sentence = "How many NODES are gone through in the mean of all ADDRESSES: (double) of all together by (double) of 4294967296, as doubleToLongBits.")
    static void stepsAtTheEdges() {
        due("one", new RouteStrides().steps(), Double.doubleToLongBits(1.0));
        due("one for all", of("0.0.0.0/0=1 1").steps(), Double.doubleToLongBits(1.0));
        RouteStrides x = bothEnds();
        due("two of each level", x.steps(), mean(1L << 32, 2L << 28, 2L << 24, 2L << 20, 2L << 16, 2L << 12, 2L << 8, 2L << 4));
        x.strides(266666);
        due("two of each of six", x.steps(), mean(1L << 32, 2L << 30, 2L << 24, 2L << 18, 2L << 12, 2L << 6));
        // All that two bits tell leads on, and all that four bits tell but a sixteenth.
        RouteStrides y = new RouteStrides();
        y.strides(2222222222222222L);
        for (int i = 0; i < 15; i++) {
            y.add(i << 28, 5, 1, 1);
        }
        due("nearly three", y.steps(), mean(1L << 32, 1L << 32, 15L << 28));
        y.add(15 << 28, 5, 1, 1);
        due("just three", y.steps(), Double.doubleToLongBits(3.0));
    }

    private static long mean(long... nodes) {
        long all = 0;
        for (long addresses : nodes) {
            all += addresses;
        }
        return Double.doubleToLongBits((double) all / (double) 4294967296L);
    }

    @Of(promise = 33, sentence = "What 0: RULES, 1: HOPS, 2: LEVELS, 3: NODES, 4: unlike NODES, 5: HOPS STORED by all, 6: SPANS, 7: IDLE RULES, 8: TOUCHED, 9: ACTS that can be UNDONE, 10: bytes of the TAPE, 11: SHELVES on which something is KEPT, as bits, 12: the most NODES that are gone through for an ADDRESS.")
    static void countsAtTheEdges() {
        RouteStrides x = full();
        for (int i = 0; i < 20; i++) {
            x.feed(0, 0, 0, 0, 0);
        }
        x.keep(0);
        x.keep(1);
        // 0 to 239 by fours: of levels 0 to 6 one node each, of level 7 fifteen; the last rule touched
        // the last of these alone.
        int[] want = {60, 60, 8, 22, 22, 7 + 60, 61, 0, 1, 10, 400, 3, 8};
        for (int what = 0; what < want.length; what++) {
            due("count(" + what + ") of a full table", x.count(what), want[what]);
        }
        int[] none = {0, 0, 8, 1, 1, 1, 1, 0, 0, 0, 0, 0, 1};
        for (int what = 0; what < none.length; what++) {
            due("count(" + what + ") of a new object", new RouteStrides().count(what), none[what]);
        }
        // 33 rules in one another, each but the longest served by those inside it.
        RouteStrides y = new RouteStrides();
        y.strides(2222222222222222L);
        for (int length = 0; length <= 32; length++) {
            y.add(0, length, length, 0);
        }
        due("nested rules are not idle", y.count(7), 0);
        y.add(1, 32, 99, 0);
        due("one is", y.count(7), 1);
        due("the most nodes", y.count(12), 16);
        due("nodes", y.count(3), 16);
    }

    @Of(promise = 33, sentence = "NONE for others.")
    static void noCounts() {
        RouteStrides x = full();
        due("count(13)", x.count(13), NONE);
        due("count(-1)", x.count(-1), NONE);
        farOnes("count", x::count, NONE);
    }
}
