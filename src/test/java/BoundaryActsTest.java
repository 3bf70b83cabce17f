/** Promises 1 to 12 at the edges that their sentences name. */
public final class BoundaryActsTest extends Sentences {
    private static final String RULE = "1.0.0.0/8=1 1";
    private static final int[] BELOW_AND_ABOVE = {-1, Integer.MIN_VALUE, Integer.MAX_VALUE};

    public static void main(String[] args) throws Exception {
        runAll(BoundaryActsTest.class, 1, 12);
    }

    // ---- promises 1 to 4: the object, the tape, texts

    @Of(promise = 1, sentence = "No RULES.")
    static void noRules() {
        RouteStrides x = new RouteStrides();
        int[] want = {0, 0, 8, 1, 1, 1, 1, 0, 0, 0, 0, 0, 1};
        for (int what = 0; what < want.length; what++) {
            due("count(" + what + ")", x.count(what), want[what]);
        }
        due("rule(0, 0)", x.rule(0, 0), 0);
        due("rule(0, 1)", x.rule(0, 1), -2);
        due("served(0)", x.served(0), NONE);
        due("hop(0, 0)", x.hop(0, 0), NONE);
        due("reach(NONE)", x.reach(NONE), 4294967296L);
        due("look(0, 0)", x.look(0, 0), NONE);
        due("look(-1, 1)", x.look(-1, 1), NONE);
        due("within(0, 0, NONE)", x.within(0, 0, NONE), 0);
        due("withdraw(0, 0)", x.withdraw(0, 0), NONE);
        due("gather()", x.gather(), -3);
        due("undo()", x.undo(), NONE);
        due("back(0)", x.back(0), -2);
        due("differs(0, 0)", x.differs(0, 0), NONE);
        due("span(0, 0)", x.span(0, 0), 0);
        due("span(0, 1)", x.span(0, 1), 0xFFFFFFFFL);
        due("fewest(NONE, 0)", x.fewest(NONE, 0), 0);
        due("own(NONE, NONE, 0)", x.own(NONE, NONE, 0), 1);
        due("own(NONE, 0, 0)", x.own(NONE, 0, 0), 0);
        due("steps()", x.steps(), Double.doubleToLongBits(1.0));
        due("tell() of an empty tape", x.tell(), -3);
    }

    @Of(promise = 2, sentence = "Twenty bytes come behind the TAPE, of each number the highest first: how many it has;")
    static void twentyBytes() {
        RouteStrides x = new RouteStrides();
        // "1.0." "0.0/" "8=1 " "1;2." "0.0."
        due("feed", x.feed(0x312E302E, 0x302E302F, 0x383D3120, 0x313B322E, 0x302E302E), 20);
        // "0/8=" "9 3 " and blanks
        due("feed behind it", x.feed(0x302F383D, 0x39203320, 0x20202020, 0x20202020, 0x20202020), 40);
        due("tell()", x.tell(), 2);
        due("rule(1, 0)", x.rule(1, 0), ip(2, 0, 0, 0));
        due("hop(1, 0)", x.hop(1, 0), 9);
        due("feed on an empty tape", x.feed(0, 0, 0, 0, 0), 20);
        x.end(3);
        due("feed behind three", x.feed(0, 0, 0, 0, 0), 23);
        x.end(0);
        // Bytes above 127, at every place of a number: the first one is what is wrong.
        x.feed(-1, -1, -1, -1, -1);
        due("tell() of bytes 255", x.tell(), -3);
        x.feed(0x20202020, 0x202020FF, -1, 0, 0);
        due("tell() of 255 at 7", x.tell(), -2 - 8 * 7 - 1);
        x.feed(0x20202020, 0x20202020, 0x80202020, 0, 0);
        due("tell() of 128 at 8", x.tell(), -2 - 8 * 8 - 1);
    }

    @Of(promise = 2, sentence = "NONE, and none comes, if it would have more than 400.")
    static void tapeOf400() {
        RouteStrides x = new RouteStrides();
        for (int i = 1; i <= 20; i++) {
            due("feed " + i, x.feed(0x20202020, 0x20202020, 0x20202020, 0x20202020, 0x20202020), 20 * i);
        }
        due("feed at 400", x.feed(0, 0, 0, 0, 0), NONE);
        due("count(10)", x.count(10), 400);
        for (int size = 399; size > 380; size--) {
            x.end(size);
            due("feed at " + size, x.feed(0x78787878, 0, 0, 0, 0), NONE);
            due("count(10) at " + size, x.count(10), size);
        }
        x.end(380);
        due("feed at 380", x.feed(0x20202020, 0x20202020, 0x20202020, 0x20202020, 0x20202020), 400);
        due("none has come: all are blanks", x.tell(), -2 - 8 * 400 - 1);
        due("the tape is empty", x.count(10), 0);
    }

    @Of(promise = 3, sentence = "The TAPE has its first n bytes alone: n;")
    static void firstBytesAlone() {
        RouteStrides x = new RouteStrides();
        due("end(0) of an empty one", x.end(0), 0);
        feedText(x, RULE + "xxxxxxx");
        due("end(20), all", x.end(20), 20);
        due("end(13)", x.end(13), 13);
        due("end(14), which are gone", x.end(14), NONE);
        due("count(10)", x.count(10), 13);
        due("feed behind 13", x.feed(0x3B322E30, 0x2E302E30, 0x2F383D31, 0x20312020, 0x20202020), 33);
        due("tell()", x.tell(), 2);
        feedText(x, RULE);
        due("end(0)", x.end(0), 0);
        due("tell() of none", x.tell(), -3);
        due("count(0)", x.count(0), 2);
    }

    @Of(promise = 3, sentence = "NONE, and nothing happens, if it has not so many, or n is below 0.")
    static void noSuchEnd() {
        refused("end(-1)", x -> x.end(-1), NONE);
        refused("end(MIN)", x -> x.end(Integer.MIN_VALUE), NONE);
        refused("end(MAX)", x -> x.end(Integer.MAX_VALUE), NONE);
        refused("end(401)", x -> x.end(401), NONE);
        refused("end(count + 1)", x -> x.end(x.count(10) + 1), NONE);
        RouteStrides x = new RouteStrides();
        due("end(1) of an empty one", x.end(1), NONE);
        for (int i = 0; i < 20; i++) {
            x.feed(i, i, i, i, i);
        }
        due("end(401) of a full one", x.end(401), NONE);
        due("end(400) of a full one", x.end(400), 400);
    }

    @Of(promise = 4, sentence = "The TAPE, which is empty then, tells a table in place of the one there was")
    static void inPlaceOfTheTable() {
        RouteStrides x = full();
        feedText(x, RULE);
        due("tell()", x.tell(), 1);
        due("count(10)", x.count(10), 0);
        due("count(0)", x.count(0), 1);
        due("count(1)", x.count(1), 1);
        due("hop(59, 0)", x.hop(59, 0), NONE);
        due("look(0, 0)", x.look(0, 0), NONE);
        due("tell() once more", x.tell(), -3);
        due("count(0)", x.count(0), 1);
        feedText(x, "x");
        due("tell() of a fault", x.tell(), -3);
        due("count(10) behind a fault", x.count(10), 0);
    }

    @Of(promise = 4, sentence = "(RULES come in their order;")
    static void rulesInTheirOrder() {
        RouteStrides x = of("1.0.0.0/8=5 5;2.0.0.0/8=4 4;2.0.0.0/9=5 5;3.0.0.0/8=3 3");
        int[] gates = {5, 4, 3};
        for (int hop = 0; hop < 3; hop++) {
            due("hop(" + hop + ", 0)", x.hop(hop, 0), gates[hop]);
        }
        // The order is that of the lines; the rules stand by VALUES all the same.
        RouteStrides y = of("3.0.0.0/8=3 3;1.0.0.0/8=5 5;2.0.0.0/8=4 4;1.0.0.0/8=6 6");
        int[] values = {1, 2, 3};
        int[] hops = {1, 2, 0};
        int[] told = {3, 6, 4};
        for (int k = 0; k < 3; k++) {
            due("rule(" + k + ", 0)", y.rule(k, 0), values[k] << 24);
            due("rule(" + k + ", 2)", y.rule(k, 2), hops[k]);
            due("hop(" + k + ", 0)", y.hop(k, 0), told[k]);
        }
    }

    @Of(promise = 4, sentence = "STRIDES are the first ones without;")
    static void firstStridesWithout() {
        RouteStrides x = new RouteStrides();
        x.strides(266666);
        told(x, RULE);
        due("count(2)", x.count(2), 8);
        due("level(7, 0)", x.level(7, 0), 4);
        told(x, "strides 2 2 2 2 2 2 2 2 2 2 2 2 2 2 2 2");
        due("count(2)", x.count(2), 16);
        told(x, RULE);
        due("count(2)", x.count(2), 8);
        due("level(0, 0)", x.level(0, 0), 4);
        due("level(8, 0)", x.level(8, 0), NONE);
    }

    @Of(promise = 4, sentence = "nothing can be UNDONE;")
    static void nothingBehindTell() {
        RouteStrides x = full();
        told(x, RULE);
        due("count(9)", x.count(9), 0);
        due("count(8)", x.count(8), 0);
        due("undo()", x.undo(), NONE);
        due("count(0)", x.count(0), 1);
        x.add(0, 0, 2, 2);
        due("undo() of what came behind", x.undo(), 0);
        due("undo() of the text", x.undo(), NONE);
        due("count(0)", x.count(0), 1);
    }

    @Of(promise = 4, sentence = "SHELVES stay):")
    static void shelvesStay() {
        RouteStrides x = halved();
        x.keep(0);
        told(x, RULE);
        due("count(11)", x.count(11), 1);
        due("differs(0, 0)", x.differs(0, 0), (1L << 31) + (1 << 24));
        due("back(1)", x.back(1), -2);
        due("back(0)", x.back(0), 2);
    }

    @Of(promise = 4, sentence = "how many RULES;")
    static void howManyTold() {
        RouteStrides x = new RouteStrides();
        due("strides alone", told(x, "strides 2 6 6 6 6 6"), 0);
        due("one", told(x, RULE), 1);
        due("one told three times", told(x, RULE + ";" + RULE + ";1.0.0.0/8=2 2"), 1);
        StringBuilder most = new StringBuilder("0.0.0.0/0=1 1");
        for (int length = 1; length < 10; length++) {
            most.append(";0.0.0.0/").append(length).append("=1 1");
        }
        for (int first = 1; first < 10; first++) {
            most.append(";").append(first).append(".0.0.0/8=1 1");
        }
        for (int second = 1; second < 10; second++) {
            most.append(";0.").append(second).append(".0.0/16=1 1");
        }
        // 28 rules in 400 bytes.
        due("bytes", most.length(), 400);
        due("tell()", told(x, most.toString()), 28);
        due("count(0)", x.count(0), 28);
    }

    @Of(promise = 4, sentence = "-2 - its FAULT, and but for the TAPE nothing happens.")
    static void nothingByAFault() {
        String[] texts = {"", "x", RULE + ";", RULE + ";x", "strides 2 6 6 6 6 6;" + RULE + ";1.0.0.0/8=100 1", "strides 2 6 6 6 6 7"};
        int[] faults = {1, 1, 8 * 14 + 1, 8 * 14 + 1, 8 * 44 + 2, 8 * 18 + 2};
        for (int i = 0; i < texts.length; i++) {
            RouteStrides[] tables = {new RouteStrides(), worked(), full()};
            RouteStrides[] twins = {new RouteStrides(), worked(), full()};
            for (int j = 0; j < tables.length; j++) {
                tables[j].end(0);
                twins[j].end(0);
                feedText(tables[j], texts[i]);
                due("tell() of \"" + texts[i] + "\"", tables[j].tell(), -2 - faults[i]);
                same("behind \"" + texts[i] + "\"", state(tables[j]), state(twins[j]));
                due("undo()", tables[j].undo(), twins[j].undo());
                same("behind undo()", state(tables[j]), state(twins[j]));
            }
        }
    }

    // ---- promises 5 to 9: acts

    @Of(promise = 5, sentence = "A RULE is added, or has another HOP: its HOP;")
    static void addsAtTheEdges() {
        RouteStrides x = new RouteStrides();
        due("0/0", x.add(0, 0, 0, 0), 0);
        due("the last address", x.add(-1, 32, 99, 9), 1);
        due("the first address", x.add(0, 32, 0, 9), 2);
        due("another hop of 0/0", x.add(0, 0, 99, 9), 1);
        due("count(0)", x.count(0), 3);
        due("count(1)", x.count(1), 2);
        due("look(HIGH, 0)", x.look(HIGH, 0), 1);
        RouteStrides f = full();
        due("another hop of one of 60", f.add(4, 30, 0, 0), 0);
        due("a new hop of one of 60", f.add(4, 30, 99, 9), 1);
        due("count(0)", f.count(0), 60);
        due("count(9)", f.count(9), 10);
    }

    @Of(promise = 5, sentence = "-2, and nothing happens: it has that;")
    static void hasThatHop() {
        refusedOn(Sentences::worked, "add", x -> x.add(HIGH, 1, 7, 3), -2);
        refusedOn(Sentences::worked, "add", x -> x.add(0, 9, 7, 3), -2);
        refusedOn(Tables::full, "add of one of 60", x -> x.add(0, 30, 0, 0), -2);
        refusedOn(Tables::full, "add of one of 60", x -> x.add(59 * 4, 30, 59, 0), -2);
        RouteStrides x = worked();
        due("another port", x.add(HIGH, 1, 7, 2), 2);
        due("another gate", x.add(HIGH, 1, 6, 2), 2);
    }

    @Of(promise = 5, sentence = "-3: there are 60;")
    static void noRoomForARule() {
        refusedOn(Tables::full, "add of a new one", x -> x.add(0, 29, 1, 0), -3);
        refusedOn(Tables::full, "add of a new way", x -> x.add(-1, 32, 99, 9), -3);
        RouteStrides x = full();
        x.withdraw(0, 30);
        due("of 59", x.add(-1, 32, 99, 9), 0);
        due("of 60", x.add(0, 30, 0, 0), -3);
        due("wrong ahead of full", x.add(0, 33, 0, 0), NONE);
        due("wrong ahead of full", x.add(0, 30, 100, 0), NONE);
    }

    @Of(promise = 5, sentence = "NONE, and nothing happens, for no BEGINNING, GATE, PORT.")
    static void addsOfNothing() {
        refused("add, length -1", x -> x.add(0, -1, 1, 1), NONE);
        refused("add, length 33", x -> x.add(0, 33, 1, 1), NONE);
        refused("add, a bit behind 0", x -> x.add(HIGH, 0, 1, 1), NONE);
        refused("add, a bit behind 31", x -> x.add(1, 31, 1, 1), NONE);
        refused("add, gate -1", x -> x.add(0, 30, -1, 0), NONE);
        refused("add, gate 100", x -> x.add(0, 30, 100, 0), NONE);
        refused("add, port -1", x -> x.add(0, 30, 0, -1), NONE);
        refused("add, port 10", x -> x.add(0, 30, 0, 10), NONE);
        // 0 10 is not 1 0, which the second rule of a full table has.
        refused("add, port 10", x -> x.add(4, 30, 0, 10), NONE);
        for (int odd : BELOW_AND_ABOVE) {
            refused("add, length " + odd, x -> x.add(0, odd, 1, 1), NONE);
            refused("add, gate " + odd, x -> x.add(0, 1, odd, 1), NONE);
            refused("add, port " + odd, x -> x.add(0, 1, 1, odd), NONE);
        }
    }

    @Of(promise = 6, sentence = "A RULE is withdrawn: how many are left;")
    static void withdrawsAtTheEdges() {
        RouteStrides x = of("0.0.0.0/0=1 1;0.0.0.0/32=1 1;255.255.255.255/32=2 2");
        due("0/0", x.withdraw(0, 0), 2);
        due("look(5, 0)", x.look(5, 0), NONE);
        due("the last address", x.withdraw(-1, 32), 1);
        due("the first address", x.withdraw(0, 32), 0);
        due("count(1)", x.count(1), 0);
        due("count(9)", x.count(9), 3);
        RouteStrides f = full();
        for (int i = 0; i < 60; i++) {
            due("withdraw " + i, f.withdraw(i * 4, 30), 59 - i);
        }
        due("count(6)", f.count(6), 1);
    }

    @Of(promise = 6, sentence = "NONE, and nothing happens, without it.")
    static void withdrawsOfNothing() {
        refused("withdraw of a longer one", x -> x.withdraw(HIGH, 7), NONE);
        refused("withdraw of a shorter one", x -> x.withdraw(0, 8), NONE);
        refused("withdraw of one behind", x -> x.withdraw(-1, 32), NONE);
        refused("withdraw of 0/0", x -> x.withdraw(0, 0), NONE);
        refused("withdraw of no beginning", x -> x.withdraw(HIGH + 1, 1), NONE);
        refused("withdraw, length 33", x -> x.withdraw(0, 33), NONE);
        for (int odd : BELOW_AND_ABOVE) {
            refused("withdraw, length " + odd, x -> x.withdraw(0, odd), NONE);
        }
        RouteStrides x = of(RULE);
        due("withdraw", x.withdraw(ip(1, 0, 0, 0), 8), 0);
        due("withdraw again", x.withdraw(ip(1, 0, 0, 0), 8), NONE);
    }

    @Of(promise = 7, sentence = "Each BEGINNING of a RANGE is added as a RULE, or has that HOP: how many BEGINNINGS;")
    static void rangesAtTheEdges() {
        RouteStrides x = new RouteStrides();
        due("all", x.range(0, -1, 1, 1), 1);
        due("rule(0, 1)", x.rule(0, 1), 0);
        due("the last address", x.range(-1, -1, 2, 2), 1);
        due("rule(1, 1)", x.rule(1, 1), 32);
        due("all but the first", x.range(1, -1, 3, 3), 32);
        // The last address has a rule already; of the 32 none is it.
        due("count(0)", x.count(0), 34);
        due("count(9)", x.count(9), 3);
        due("the rule of the last one stays", x.look(-1, 0), 1);
        due("some have it, some not", x.range(1, 4, 3, 3), 3);
        due("count(0)", x.count(0), 35);
        due("undo()", x.undo(), 3);
        due("count(0)", x.count(0), 34);
        due("undo()", x.undo(), 2);
        due("count(0)", x.count(0), 2);
        RouteStrides y = of("0.0.0.0/0=1 1");
        due("another hop of the only rule", y.range(0, -1, 2, 2), 1);
        due("count(0)", y.count(0), 1);
        due("hop(0, 0)", y.hop(0, 0), 2);
        // Hop 0 is free, but the rule that has 2 2 already keeps its number, and the new one takes it.
        RouteStrides z = of("0.0.0.9/32=1 1;0.0.0.1/32=2 2");
        z.withdraw(9, 32);
        due("one has it, one is new", z.range(1, 2, 2, 2), 2);
        due("look(1, 0)", z.look(1, 0), 1);
        due("look(2, 0)", z.look(2, 0), 1);
        due("hop(0, 0)", z.hop(0, 0), NONE);
    }

    @Of(promise = 7, sentence = "-2, and nothing happens: all have it;")
    static void allHaveIt() {
        refusedOn(Sentences::worked, "range of one", x -> x.range(HIGH, -1, 7, 3), -2);
        refusedOn(Tables::full, "range of one of 60", x -> x.range(0, 3, 0, 0), -2);
        refusedOn(() -> of("0.0.0.1/32=1 1;0.0.0.2/32=1 1"), "range of two", x -> x.range(1, 2, 1, 1), -2);
        RouteStrides x = of("0.0.0.1/32=1 1;0.0.0.2/32=2 2");
        due("one of two has it", x.range(1, 2, 1, 1), 2);
        due("both have it", x.range(1, 2, 1, 1), -2);
        due("addresses have it by another rule", x.range(1, 1, 1, 1), -2);
        due("addresses have it, but no rule of that beginning", of("0.0.0.0/0=1 1").range(1, 2, 1, 1), 2);
    }

    @Of(promise = 7, sentence = "-3: there would be more than 60 RULES;")
    static void noRoomForARange() {
        refusedOn(RouteStrides::new, "62 of none", x -> x.range(1, -2, 1, 1), -3);
        refusedOn(Tables::full, "one more than 60", x -> x.range(-1, -1, 1, 1), -3);
        refusedOn(Tables::full, "one that is there, one more", x -> x.range(0, 4, 1, 1), -3);
        // 29 are new of 1 to 2^29 - 1, 30 of 1 to 2^30 - 1.
        RouteStrides x = new RouteStrides();
        for (int i = 0; i < 31; i++) {
            x.add(HIGH + i * 4, 30, 1, 1);
        }
        due("61", x.range(1, (1 << 30) - 1, 1, 1), -3);
        due("count(0)", x.count(0), 31);
        due("60", x.range(1, (1 << 29) - 1, 1, 1), 29);
        due("count(0)", x.count(0), 60);
        due("60 that are there", x.range(1, (1 << 29) - 1, 2, 2), 29);
        due("60 rules: 61", x.range(1, 1 << 29, 2, 2), -3);
        RouteStrides y = new RouteStrides();
        // 1 to 2^32 - 3: 31 from below and 30 from above, one too many; without the first one 60.
        due("61 of none", y.range(1, -3, 1, 1), -3);
        due("60 of none", y.range(2, -3, 1, 1), 60);
        due("count(0)", y.count(0), 60);
    }

    @Of(promise = 7, sentence = "NONE, and nothing happens, if the first ADDRESS is above the second one, for no GATE, PORT.")
    static void rangesOfNothing() {
        refused("range(1, 0)", x -> x.range(1, 0, 1, 1), NONE);
        refused("range(-1, -2)", x -> x.range(-1, -2, 1, 1), NONE);
        refused("range(-1, 0)", x -> x.range(-1, 0, 1, 1), NONE);
        refused("range(MIN, MAX)", x -> x.range(Integer.MIN_VALUE, Integer.MAX_VALUE, 1, 1), NONE);
        refused("range, gate 100", x -> x.range(0, 3, 100, 0), NONE);
        refused("range, gate -1", x -> x.range(0, 3, -1, 0), NONE);
        refused("range, port 10", x -> x.range(0, 3, 0, 10), NONE);
        refused("range, port -1", x -> x.range(0, 3, 0, -1), NONE);
        for (int odd : BELOW_AND_ABOVE) {
            refused("range, gate " + odd, x -> x.range(0, 0, odd, 1), NONE);
            refused("range, port " + odd, x -> x.range(0, 0, 1, odd), NONE);
        }
        due("one address is no such range", new RouteStrides().range(5, 5, 1, 1), 1);
    }

    @Of(promise = 8, sentence = "STRIDES are the digits of a number (the highest first): how many LEVELS;")
    static void digitsOfStrides() {
        RouteStrides x = new RouteStrides();
        long[] rows = {266666, 666662, 2222222222222222L, 3333333335L, 5333333333L, 5555552, 2555555, 222222222222233L, 44444444};
        for (long row : rows) {
            String digits = Long.toString(row);
            due("strides(" + row + ")", x.strides(row), digits.length());
            due("count(2)", x.count(2), digits.length());
            for (int level = 0; level < digits.length(); level++) {
                due("level(" + level + ", 0) of " + row, x.level(level, 0), digits.charAt(level) - '0');
            }
            due("no more levels of " + row, x.level(digits.length(), 0), NONE);
        }
    }

    @Of(promise = 8, sentence = "-2, and nothing happens: they are so;")
    static void stridesAreSo() {
        refusedOn(RouteStrides::new, "strides(44444444)", x -> x.strides(44444444), -2);
        refusedOn(Sentences::worked, "strides(266666)", x -> x.strides(266666), -2);
        refusedOn(Tables::full, "strides(44444444)", x -> x.strides(44444444), -2);
        RouteStrides x = new RouteStrides();
        x.strides(2222222222222222L);
        due("sixteen again", x.strides(2222222222222222L), -2);
        x.strides(266666);
        due("six in another order", x.strides(626666), 6);
        due("six in the last order", x.strides(666662), 6);
        due("six again", x.strides(666662), -2);
    }

    @Of(promise = 8, sentence = "NONE, and nothing happens, if they are not 2 to 6, 32 together.")
    static void noStrides() {
        // 0; too few, too many together; digits 0, 1, 7, 8, 9; below 0; 17 and more digits.
        long[] none = {0, 4, 4444444, 444444443, 444444445, 66666, 666661, 666663, 6666602, 66666011, 1666661, 77666, 8888, 9995,
            -44444444, -266666, 22222222222222222L, 222222222222222221L, 2222222222222222222L, 1111111111111111111L,
            Long.MAX_VALUE, Long.MIN_VALUE, Integer.MAX_VALUE, 44444444L + (1L << 32), 266666 - (1L << 32), 444444440, 440444444,
            26666600, 2266666, 2666666};
        for (long digits : none) {
            refused("strides(" + digits + ")", x -> x.strides(digits), NONE);
        }
    }

    @Of(promise = 9, sentence = "GATHERED: how many RULES;")
    static void gathersAtTheEdges() {
        RouteStrides x = of("0.0.0.0/0=1 1");
        for (int i = 0; i < 59; i++) {
            x.add(i * 4, 30, 1, 1);
        }
        due("60 of one hop", x.gather(), 1);
        due("count(0)", x.count(0), 1);
        due("count(1)", x.count(1), 1);
        due("count(8)", x.count(8), 0);
        due("undo()", x.undo(), 9);
        due("count(0)", x.count(0), 60);
        // Of 60 hops each needs a rule: the first 32 stand under 0/25, which has the first of them.
        RouteStrides f = full();
        due("60 of 60 hops", f.gather(), 60);
        due("rule(0, 1)", f.rule(0, 1), 25);
        due("rule(1, 0)", f.rule(1, 0), 4);
        due("look(3, 0)", f.look(3, 0), 0);
        RouteStrides y = of("0.0.0.0/1=1 1;128.0.0.0/1=1 1;0.0.0.0/0=2 2");
        due("one for all", y.gather(), 1);
        due("the hop keeps its number", y.look(0, 0), 0);
        due("the idle rule's hop is gone", y.hop(1, 0), NONE);
    }

    @Of(promise = 9, sentence = "-2, and nothing happens: one of THE FEWEST has no HOP;")
    static void fewestOfNoHop() {
        refusedOn(() -> of("0.0.0.0/1=1 1;128.0.0.0/2=1 1"), "gather()", RouteStrides::gather, -2);
        refusedOn(() -> {
            RouteStrides x = of("0.0.0.0/1=1 1");
            x.range(HIGH, -2, 1, 1);
            return x;
        }, "gather() of all but the last", RouteStrides::gather, -2);
        // Without a quarter of none there is no such rule.
        due("half of none", of("0.0.0.0/2=1 1;64.0.0.0/2=1 1").gather(), 1);
        RouteStrides x = of("0.0.0.0/1=1 1;128.0.0.0/2=1 1");
        due("a quarter of none", x.gather(), -2);
        x.add(3 << 30, 2, 1, 1);
        due("a quarter of none no more", x.gather(), 1);
    }

    @Of(promise = 9, sentence = "-3: they are so already.")
    static void fewestAlready() {
        refusedOn(RouteStrides::new, "gather() of none", RouteStrides::gather, -3);
        refusedOn(Sentences::worked, "gather()", RouteStrides::gather, -3);
        refusedOn(() -> of("0.0.0.0/0=1 1"), "gather() of one for all", RouteStrides::gather, -3);
        refusedOn(() -> {
            RouteStrides x = of("0.0.0.0/2=1 1;64.0.0.0/2=1 1");
            x.gather();
            return x;
        }, "gather() again", RouteStrides::gather, -3);
        // As many, but others: 0/0 and 128/1 in place of both halves.
        RouteStrides x = of("0.0.0.0/1=1 1;128.0.0.0/1=2 2");
        due("as many, but others", x.gather(), 2);
        due("rule(0, 1)", x.rule(0, 1), 0);
        due("again", x.gather(), -3);
        // As many beginnings of the same kind, but of other hops: 1 on top and 0 in the lower half.
        RouteStrides y = new RouteStrides();
        y.add(HIGH, 1, 1, 1);
        y.add(0, 0, 2, 2);
        due("0 in the upper half, 1 on top", y.gather(), 2);
        due("0 on top", y.rule(0, 2), 0);
        due("1 in the lower half", y.rule(1, 0), 0);
    }

    // ---- promises 10 to 12: undone, kept

    @Of(promise = 10, sentence = "The last ACT is UNDONE: how many more can be;")
    static void undoesEachAct() {
        RouteStrides x = of("0.0.0.0/2=1 1;64.0.0.0/2=1 1;192.0.0.0/2=2 2");
        String told = state(x);
        x.add(HIGH, 2, 3, 3);
        String added = rulesOf(x);
        x.withdraw(HIGH, 2);
        String withdrawn = rulesOf(x);
        x.range(HIGH + 1, HIGH + 2, 2, 2);
        x.strides(266666);
        String ranged = rulesOf(x);
        due("gather()", x.gather(), 4);
        due("undo() of gather", x.undo(), 4);
        same("behind gather undone", rulesOf(x), ranged);
        due("count(2)", x.count(2), 6);
        due("undo() of strides", x.undo(), 3);
        due("count(2)", x.count(2), 8);
        due("undo() of range", x.undo(), 2);
        same("behind range undone", rulesOf(x), withdrawn);
        due("undo() of withdraw", x.undo(), 1);
        same("behind withdraw undone", rulesOf(x), added);
        due("undo() of add", x.undo(), 0);
        same("behind all undone", state(x), told);
    }

    private static String rulesOf(RouteStrides x) {
        StringBuilder rules = new StringBuilder();
        for (int k = 0; k < x.count(0); k++) {
            rules.append(x.rule(k, 0)).append('/').append(x.rule(k, 1)).append('=').append(x.rule(k, 2)).append(' ');
        }
        for (int hop = 0; hop < 4; hop++) {
            rules.append(x.hop(hop, 0)).append('.').append(x.hop(hop, 2)).append(' ');
        }
        return rules.toString();
    }

    @Of(promise = 10, sentence = "NONE, and nothing happens, if none can.")
    static void undoesNothing() {
        RouteStrides[] tables = {new RouteStrides(), of(RULE), full()};
        for (RouteStrides x : tables) {
            while (x.count(9) > 0) {
                x.undo();
            }
            String before = state(x);
            due("undo()", x.undo(), NONE);
            same("behind undo()", state(x), before);
        }
        due("50 of 60 rules are there", tables[2].count(0), 50);
        RouteStrides y = worked();
        y.back(1);
        due("behind back", y.undo(), NONE);
    }

    @Of(promise = 11, sentence = "All is KEPT on a SHELF: how many RULES;")
    static void keepsAtTheEdges() {
        RouteStrides x = new RouteStrides();
        due("nothing", x.keep(0), 0);
        due("count(11)", x.count(11), 1);
        due("back(0)", x.back(0), 0);
        RouteStrides f = full();
        due("60", f.keep(1), 60);
        due("count(11)", f.count(11), 2);
        due("keep(0)", f.keep(0), 60);
        due("count(11)", f.count(11), 3);
        f.withdraw(0, 30);
        due("kept again", f.keep(1), 59);
        due("the other shelf is as it was", f.back(0), 60);
        due("this one is another", f.back(1), 59);
        due("count(11)", f.count(11), 3);
        RouteStrides y = worked();
        y.keep(0);
        due("acts stay", y.count(9), 4);
        due("the tape stays", y.count(10), 5);
        due("what was touched stays", y.count(8) > 0 ? 1 : 0, 1);
        due("undo() as ever", y.undo(), 3);
    }

    @Of(promise = 11, sentence = "NONE, and nothing happens, without that SHELF.")
    static void keepsOnNoShelf() {
        int[] none = {-1, 2, 3, 31, 32, 33, -2, Integer.MIN_VALUE, Integer.MAX_VALUE};
        for (int shelf : none) {
            refused("keep(" + shelf + ")", x -> x.keep(shelf), NONE);
        }
    }

    @Of(promise = 12, sentence = "All is as it was KEPT (nothing can be UNDONE then): how many RULES;")
    static void backAtTheEdges() {
        RouteStrides x = worked();
        due("back(1)", x.back(1), 2);
        due("count(9)", x.count(9), 0);
        due("count(8)", x.count(8), 0);
        due("undo()", x.undo(), NONE);
        due("the tape stays", x.count(10), 5);
        due("count(2)", x.count(2), 6);
        due("differs(1, 0)", x.differs(1, 0), 0);
        for (int i = 0; i < 12; i++) {
            x.add(i, 32, i, 0);
        }
        due("back(1) again", x.back(1), 2);
        due("count(0)", x.count(0), 2);
        due("count(1)", x.count(1), 2);
        due("the numbers of hops", x.look(HIGH, 0), 1);
        RouteStrides y = full();
        y.keep(0);
        told(y, RULE);
        due("60", y.back(0), 60);
        due("hop(59, 0)", y.hop(59, 0), 59);
        due("the 61st", y.add(-1, 32, 1, 1), -3);
    }

    @Of(promise = 12, sentence = "-2, and nothing happens: nothing is.")
    static void backToNothing() {
        refused("back(0)", x -> x.back(0), -2);
        refusedOn(RouteStrides::new, "back(1)", x -> x.back(1), -2);
        refusedOn(Tables::full, "back(1)", x -> x.back(1), -2);
    }

    @Of(promise = 12, sentence = "NONE, and nothing happens, without that SHELF.")
    static void backToNoShelf() {
        // Bits beside those of the shelves are those of 32 and 33, too, if a shift takes them.
        int[] none = {-1, 2, 3, 31, 32, 33, -2, -31, -32, Integer.MIN_VALUE, Integer.MAX_VALUE};
        for (int shelf : none) {
            refused("back(" + shelf + ")", x -> x.back(shelf), NONE);
        }
    }
}
