/** The sentences that stand ahead of the promises, at their edges. */
public final class BoundaryTermsTest extends Sentences {
    private static final String RULE = "1.0.0.0/8=1 1";
    private static final String STRIDES = "strides 6 6 6 6 6 2";

    public static void main(String[] args) throws Exception {
        runAll(BoundaryTermsTest.class, 0, 0);
    }

    @Of(promise = 0, sentence = "An object is used for at most 512 calls after it has been made;")
    static void usedFor512Calls() {
        RouteStrides x = new RouteStrides();
        for (int i = 0; i < 255; i++) {
            due("add " + i, x.add(i, 32, 1, 1), 0);
            due("withdraw " + i, x.withdraw(i, 32), 0);
        }
        due("call 511", x.count(9), 10);
        due("call 512", x.count(8), 8);
    }

    // ---- addresses, beginnings, rules, hops

    @Of(promise = 0, sentence = "ADDRESSES are 32 bits, told as ints (the highest bit the first one; held against one another without sign).")
    static void addressesWithoutSign() {
        RouteStrides x = new RouteStrides();
        due("add of the upper half", x.add(HIGH, 1, 1, 1), 0);
        due("add of the lower half", x.add(0, 1, 2, 2), 1);
        due("rule(0, 0)", x.rule(0, 0), 0);
        due("rule(1, 0)", x.rule(1, 0), HIGH);
        due("look(0, 0)", x.look(0, 0), 1);
        due("look(MAX, 0)", x.look(Integer.MAX_VALUE, 0), 1);
        due("look(MIN, 0)", x.look(Integer.MIN_VALUE, 0), 0);
        due("look(-1, 0)", x.look(-1, 0), 0);
        due("span(0, 1)", x.span(0, 1), 0x7FFFFFFFL);
        due("span(1, 0)", x.span(1, 0), 0x80000000L);
        due("span(1, 1)", x.span(1, 1), 0xFFFFFFFFL);
        due("cover(MAX, MIN)", x.cover(Integer.MAX_VALUE, Integer.MIN_VALUE, NONE, 0), 2);
        due("cover(MIN, MAX)", x.cover(Integer.MIN_VALUE, Integer.MAX_VALUE, NONE, 0), -2);
        due("range(-1, 0)", x.range(-1, 0, 3, 3), NONE);
        due("range(MAX, MIN)", x.range(Integer.MAX_VALUE, Integer.MIN_VALUE, 3, 3), 2);
    }

    @Of(promise = 0, sentence = "A BEGINNING: LENGTH (0 to 32), VALUE: its bits, all behind LENGTH 0.")
    static void beginnings() {
        RouteStrides x = new RouteStrides();
        due("0/0", x.add(0, 0, 1, 1), 0);
        due("all bits, 32", x.add(-1, 32, 1, 1), 0);
        for (int length = 1; length <= 32; length++) {
            due("the last bit of " + length, x.add(1 << 32 - length, length, 1, 1), 0);
        }
        for (int length = 0; length < 32; length++) {
            due("the first bit behind " + length, x.add(1 << 31 - length, length, 1, 1), NONE);
            due("all bits, " + length, x.add(-1, length, 1, 1), NONE);
        }
        // Lengths that a shift would take for 0 to 32.
        int[] none = {-1, 33, 63, 64, 65, 96, -32, -64, Integer.MIN_VALUE, Integer.MAX_VALUE};
        for (int length : none) {
            due("length " + length, x.add(0, length, 1, 1), NONE);
            due("would, length " + length, x.would(0, length, 1, 1), NONE);
            due("within, length " + length, x.within(0, length, NONE), NONE);
            due("withdraw, length " + length, x.withdraw(0, length), NONE);
        }
        due("count(0)", x.count(0), 34);
    }

    @Of(promise = 0, sentence = "An ADDRESS, a BEGINNING of no less LENGTH lies in it, if its first bits are so.")
    static void lyingIn() {
        RouteStrides x = of("10.0.0.0/8=1 1");
        due("its first", x.look(ip(10, 0, 0, 0), 1), 0);
        due("its last", x.look(ip(10, 255, 255, 255), 1), 0);
        due("the one ahead", x.look(ip(9, 255, 255, 255), 1), NONE);
        due("the one behind", x.look(ip(11, 0, 0, 0), 1), NONE);
        due("in itself", x.within(ip(10, 0, 0, 0), 8, NONE), 1);
        due("in a longer one of its VALUE", x.within(ip(10, 0, 0, 0), 9, NONE), 0);
        due("in a shorter one of its VALUE", x.within(ip(10, 0, 0, 0), 7, NONE), 1);
        due("in all", x.within(0, 0, NONE), 1);
        due("in the one behind", x.within(ip(11, 0, 0, 0), 8, NONE), 0);
        RouteStrides y = of("255.255.255.255/32=1 1;0.0.0.0/0=2 2");
        due("one address", y.served(1), 1);
        due("all the others", y.served(0), 0xFFFFFFFFL);
    }

    @Of(promise = 0, sentence = "RULES, 60 at most: a BEGINNING (each once) and a HOP;")
    static void sixtyRules() {
        RouteStrides x = full();
        due("the 61st", x.add(HIGH, 1, 1, 1), -3);
        due("a beginning that is there", x.add(0, 30, 5, 5), 0);
        due("count(0)", x.count(0), 60);
        due("withdraw", x.withdraw(0, 30), 59);
        due("the 60th", x.add(HIGH, 1, 1, 1), 0);
        due("the 61st", x.add(HIGH, 2, 1, 1), -3);
        due("count(0)", x.count(0), 60);
        due("one of two lengths is two", of("1.0.0.0/8=1 1;1.0.0.0/9=1 1;1.0.0.0/8=1 1").count(0), 2);
    }

    @Of(promise = 0, sentence = "they stand by VALUES, of like ones by LENGTHS: 0, 1, ...")
    static void orderOfRules() {
        RouteStrides x = new RouteStrides();
        int[][] added = {{ip(10, 0, 0, 0), 16}, {-1, 32}, {ip(10, 0, 0, 0), 8}, {HIGH, 1}, {ip(10, 0, 0, 0), 32}, {0, 0}, {0, 32},
            {Integer.MAX_VALUE, 32}};
        int[][] stand = {{0, 0}, {0, 32}, {ip(10, 0, 0, 0), 8}, {ip(10, 0, 0, 0), 16}, {ip(10, 0, 0, 0), 32},
            {Integer.MAX_VALUE, 32}, {HIGH, 1}, {-1, 32}};
        for (int[] rule : added) {
            x.add(rule[0], rule[1], 1, 1);
        }
        for (int k = 0; k < stand.length; k++) {
            due("rule(" + k + ", 0)", x.rule(k, 0), stand[k][0]);
            due("rule(" + k + ", 1)", x.rule(k, 1), stand[k][1]);
        }
    }

    @Of(promise = 0, sentence = "HOPS 0, 1, ..: each a GATE (0 to 99) and a PORT (0 to 9), no two alike;")
    static void gatesAndPorts() {
        RouteStrides x = new RouteStrides();
        int[][] ways = {{0, 0}, {0, 9}, {99, 0}, {99, 9}, {1, 0}, {9, 0}, {9, 9}, {10, 0}};
        for (int i = 0; i < ways.length; i++) {
            due("add", x.add(i << 28, 4, ways[i][0], ways[i][1]), i);
            due("gate", x.hop(i, 0), ways[i][0]);
            due("port", x.hop(i, 1), ways[i][1]);
        }
        for (int i = 0; i < ways.length; i++) {
            due("the way again", x.add(i << 28, 5, ways[i][0], ways[i][1]), i);
        }
        due("count(1)", x.count(1), 8);
        // 1 10 is not 2 0, 0 100 is not 10 0, and 429496730 times 10 is 4 as an int.
        int[][] none = {{1, 10}, {0, 100}, {2, -10}, {100, 0}, {-1, 0}, {0, -1}, {-1, 10}, {100, -1}, {429496730, 0},
            {Integer.MIN_VALUE, 0}, {0, Integer.MIN_VALUE}, {Integer.MAX_VALUE, 0}, {0, Integer.MAX_VALUE}};
        for (int[] way : none) {
            due("add of " + way[0] + " " + way[1], x.add(0, 32, way[0], way[1]), NONE);
            due("range of " + way[0] + " " + way[1], x.range(0, 0, way[0], way[1]), NONE);
            due("would of " + way[0] + " " + way[1], x.would(0, 32, way[0], way[1]), NONE);
        }
    }

    @Of(promise = 0, sentence = "it is there as long as a RULE has it;")
    static void hopsThere() {
        RouteStrides x = of("1.0.0.0/8=1 1;2.0.0.0/8=1 1;3.0.0.0/8=2 2");
        x.withdraw(ip(1, 0, 0, 0), 8);
        due("one has it", x.hop(0, 2), 1);
        x.withdraw(ip(2, 0, 0, 0), 8);
        due("none has it", x.hop(0, 2), NONE);
        due("reach(0)", x.reach(0), -2);
        due("own(0, NONE, 0)", x.own(0, NONE, 0), -2);
        due("count(1)", x.count(1), 1);
        due("the other one keeps its number", x.look(ip(3, 0, 0, 0), 0), 1);
        x.add(ip(3, 0, 0, 0), 8, 3, 3);
        due("another one in its place", x.hop(1, 0), NONE);
    }

    @Of(promise = 0, sentence = "a new one has the least number that is free (a RULE that has another HOP then has none for a moment).")
    static void leastFreeNumber() {
        RouteStrides x = of("1.0.0.0/8=1 1;2.0.0.0/8=2 2;3.0.0.0/8=3 3;4.0.0.0/8=2 2");
        due("the number it had alone", x.add(ip(1, 0, 0, 0), 8, 4, 4), 0);
        due("not the number it had with another", x.add(ip(2, 0, 0, 0), 8, 5, 5), 3);
        due("the last one has it now", x.add(ip(4, 0, 0, 0), 8, 6, 6), 1);
        x.withdraw(ip(1, 0, 0, 0), 8);
        due("0 is free, not its own 2 alone", x.add(ip(3, 0, 0, 0), 8, 7, 7), 0);
        due("2 is free now", x.add(ip(1, 0, 0, 0), 8, 8, 8), 2);
        RouteStrides f = full();
        due("of 60 of 60", f.add(59 * 4, 30, 99, 9), 59);
        due("of 60 of 60", f.add(0, 30, 99, 8), 0);
    }

    @Of(promise = 0, sentence = "The RULE of an ADDRESS: of those in whose BEGINNING it lies that of the greatest LENGTH; its HOP is the ADDRESS's (NONE without).")
    static void theRuleOfAnAddress() {
        RouteStrides x = new RouteStrides();
        due("without rules", x.look(0, 0), NONE);
        for (int length = 32; length >= 0; length--) {
            x.add(0, length, length, 0);
        }
        // Numbers were given from length 32 on.
        due("0", x.look(0, 0), 0);
        due("1", x.look(1, 0), 1);
        due("2", x.look(2, 0), 2);
        due("3", x.look(3, 0), 2);
        due("4", x.look(4, 0), 3);
        due("0 by 30 bits", x.look(1 << 30, 0), 31);
        due("0 by no bits", x.look(HIGH, 0), 32);
        due("the last", x.look(-1, 1), 0);
        due("the first", x.look(0, 1), 32);
        x.withdraw(0, 0);
        due("without", x.look(-1, 0), NONE);
        due("without", x.look(-1, 1), NONE);
    }

    // ---- texts

    @Of(promise = 0, sentence = "A TEXT (at most 400 bytes): LINE { ; LINE }.")
    static void textsOf400Bytes() {
        StringBuilder text = new StringBuilder(RULE);
        for (int i = 2; i < 28; i++) {
            text.append(';').append(i).append(".0.0.0/8=1 1");
        }
        String lines = text.toString();
        String blanks = " ".repeat(400 - lines.length());
        RouteStrides x = new RouteStrides();
        due("27 lines and blanks", told(x, lines + blanks), 27);
        due("blanks and 27 lines", told(x, blanks + lines), 27);
        due("one line", told(x, RULE), 1);
        due("one line, 387 blanks ahead", told(x, " ".repeat(387) + RULE), 1);
        fault(lines + " ".repeat(399 - lines.length()) + ";", 400, 1);
        fault(lines + " ".repeat(399 - lines.length()) + "x", 399, 1);
        fault(" ".repeat(400), 400, 1);
        fault("", 0, 1);
        fault(";", 0, 1);
        fault(RULE + ";", 14, 1);
        fault(RULE + ";;" + RULE, 14, 1);
    }

    @Of(promise = 0, sentence = "LINE: N . N . N . N / LENGTH = GATE PORT (each N 0 to 255, eight bits, the highest first) | strides N { N }.")
    static void lines() {
        RouteStrides x = of("255.255.255.255/32=99 9;0.0.0.0/0=0 0;1.2.3.4/32=1 1;strides 2 2 2 2 2 2 2 2 2 2 2 2 2 2 2 2");
        due("rule(0, 0)", x.rule(0, 0), 0);
        due("rule(0, 1)", x.rule(0, 1), 0);
        due("rule(1, 0)", x.rule(1, 0), 0x01020304);
        due("rule(2, 0)", x.rule(2, 0), -1);
        due("rule(2, 1)", x.rule(2, 1), 32);
        due("hop(0, 0)", x.hop(0, 0), 99);
        due("hop(0, 1)", x.hop(0, 1), 9);
        due("hop(1, 0)", x.hop(1, 0), 0);
        due("hop(1, 1)", x.hop(1, 1), 0);
        due("count(2)", x.count(2), 16);
        fault("256.0.0.0/8=1 1", 0, 2);
        fault("0.256.0.0/8=1 1", 2, 2);
        fault("0.0.256.0/8=1 1", 4, 2);
        fault("0.0.0.256/8=1 1", 6, 2);
        fault("1.0.0/8=1 1", 5, 1);
        fault("1.0.0.0.0/8=1 1", 7, 1);
        fault("1.0.0.0=1 1", 7, 1);
        fault("1.0.0.0/8 1 1", 10, 1);
        fault("1.0.0.0/8=1", 11, 1);
        fault("1.0.0.0/8=1 1 1", 14, 1);
    }

    @Of(promise = 0, sentence = "NUMBERS are digits, as far as these go on; blanks (32) stand between as one likes.")
    static void numbersAndBlanks() {
        RouteStrides x = new RouteStrides();
        due("noughts ahead", told(x, "00.000.0.0/000=0099 00009"), 1);
        due("hop(0, 0)", x.hop(0, 0), 99);
        due("360 noughts ahead", told(x, "0".repeat(360) + "255.0.0.0/8=1 1"), 1);
        due("rule(0, 0)", x.rule(0, 0), ip(255, 0, 0, 0));
        due("blanks everywhere", told(x, "  1  .  0 . 0 .0 /  8 =  1   1  ;  strides  6 6 6 6 6 2  "), 1);
        due("no blanks", told(x, "1.0.0.0/8=1 1;strides6 6 6 6 6 2;2.0.0.0/8=2 2"), 2);
        fault("1 0.0.0.0/8=1 1", 2, 1);
        fault("1.0.0.0/8 6=1 1", 10, 1);
        fault("1.0.0.0/8=11", 12, 1);
        fault("strides 66 6 6 6 2", 8, 2);
        fault("str ides 6 6 6 6 6 2", 0, 1);
        fault("1.0.0.0/8=1\t1", 11, 1);
        fault("1.0.0.0/8=1 1\n", 13, 1);
        fault("1.0.0.0/8=1 1\0", 13, 1);
        fault("1.0.0.0/8=1 1\240", 13, 1);
        fault("1.0.0.0/8=1 +1", 12, 1);
        fault("1.0.0.0/8=-1 1", 10, 1);
    }

    @Of(promise = 0, sentence = "A LINE of a BEGINNING that was told tells another HOP of it.")
    static void linesOfOneBeginning() {
        RouteStrides x = of("1.0.0.0/8=1 1;1.0.0.0/8=2 2;1.0.0.0/8=3 3");
        due("count(0)", x.count(0), 1);
        due("count(1)", x.count(1), 1);
        due("hop(0, 0)", x.hop(0, 0), 3);
        RouteStrides y = of("1.0.0.0/8=1 1;1.0.0.0/8=1 1");
        due("the same again", y.count(0), 1);
        due("hop(0, 2)", y.hop(0, 2), 1);
        RouteStrides z = of("1.0.0.0/8=1 1;2.0.0.0/8=1 1;1.0.0.0/8=2 2");
        due("the other one has it still", z.look(ip(2, 0, 0, 0), 0), 0);
        RouteStrides w = of("1.0.0.0/8=1 1;2.0.0.0/8=2 2;1.0.0.0/8=2 2;2.0.0.0/8=2 2;1.0.0.0/8=2 2");
        due("the hop that it has keeps its number", w.look(ip(1, 0, 0, 0), 0), 1);
        due("hop(0, 0)", w.hop(0, 0), NONE);
        due("hop(1, 2)", w.hop(1, 2), 2);
        due("hop(0, 0)", z.hop(0, 0), 1);
        due("hop(1, 0)", z.hop(1, 0), 2);
    }

    @Of(promise = 0, sentence = "strides: NUMBERS 2 to 6, 32 together; the last one strikes.")
    static void lastStrides() {
        RouteStrides x = of("strides 2 6 6 6 6 6;1.0.0.0/8=1 1;strides 3 3 3 3 3 3 3 3 3 5");
        due("count(2)", x.count(2), 10);
        due("level(0, 0)", x.level(0, 0), 3);
        due("level(9, 0)", x.level(9, 0), 5);
        RouteStrides y = of("strides 2 2 2 2 2 2 2 2 2 2 2 2 2 2 2 2;strides 2 6 6 6 6 6");
        due("fewer ones behind more", y.count(2), 6);
        due("level(5, 0)", y.level(5, 0), 6);
        due("level(6, 0)", y.level(6, 0), NONE);
        fault("strides 1", 8, 2);
        fault("strides 0", 8, 2);
        fault("strides 7", 8, 2);
        fault("strides 6 6 6 6 6 2;strides 6 6 6 6 6 1", 38, 2);
    }

    @Of(promise = 0, sentence = "FAULT of a text that is none: of the first place along it that is wrong (0 the first byte), 8 times the place and:")
    static void firstPlaceThatIsWrong() {
        fault("x", 0, 1);
        fault("256.256.256.256/33=100 10;;", 0, 2);
        fault("1.0.0.256/33=100 10;;", 6, 2);
        fault("1.0.0.1/33=100 10;;", 8, 2);
        fault("1.0.0.1/8=100 10;;", 8, 3);
        fault("1.0.0.0/8=100 10;;", 10, 2);
        fault("1.0.0.0/8=10 10;;", 13, 2);
        fault("1.0.0.0/8=10 1;;", 15, 1);
        // A line that is right does not come, if one behind it is wrong.
        fault(STRIDES + ";" + RULE + ";" + RULE + "x", 19 + 1 + 13 + 1 + 13, 1);
    }

    @Of(promise = 0, sentence = "1 a byte or WORD (small letters, as far as they go on) that cannot stand there,")
    static void bytesAndWords() {
        for (int b = 0; b < 256; b++) {
            // A digit may begin a line, and a blank may stand ahead of it: then the text ends.
            boolean may = b == ' ' || b >= '0' && b <= '9';
            fault(String.valueOf((char) b), may ? 1 : 0, 1);
        }
        int[] signs = {1, 3, 5, 7, 9, 13};
        for (int place : signs) {
            fault(RULE.concat(";").concat(RULE).substring(0, place) + "*" + RULE.concat(";").concat(RULE).substring(place + 1), place, 1);
        }
        fault(" abc", 1, 1);
        fault("stride", 0, 1);
        fault("stridess 6 6 6 6 6 2", 0, 1);
        fault("stridesstrides 6 6 6 6 6 2", 0, 1);
        fault("stridesA6 6 6 6 6 2", 7, 1);
        fault("Strides 6 6 6 6 6 2", 0, 1);
        fault("sTrides 6 6 6 6 6 2", 0, 1);
        fault(RULE + ";  stridez 6", 16, 1);
        fault(RULE + " strides 6 6 6 6 6 2", 14, 1);
        fault("1.0.0.0/8=1 strides", 12, 1);
        fault(STRIDES + " strides 6 6 6 6 6 2", 20, 1);
        fault(STRIDES + ".", 19, 1);
        // The signs next to the digits and to the small letters are none of these.
        fault("1.0.0.0/8=1 /", 12, 1);
        fault("1.0.0.0/8=1 :", 12, 1);
        fault("strides`6 6 6 6 6 2", 7, 1);
        fault("strides{6 6 6 6 6 2", 7, 1);
        fault("stridesa", 0, 1);
        fault("stridesz", 0, 1);
    }

    @Of(promise = 0, sentence = "or the text ends (the place behind its last byte;")
    static void textsThatEnd() {
        for (int cut = 0; cut < RULE.length(); cut++) {
            fault(RULE.substring(0, cut), cut, 1);
            fault(RULE.substring(0, cut) + "   ", cut + 3, 1);
        }
        for (int cut = "strides".length(); cut < STRIDES.length(); cut++) {
            fault(STRIDES.substring(0, cut), cut, 1);
            fault(RULE + ";" + STRIDES.substring(0, cut) + " ", RULE.length() + 1 + cut + 1, 1);
        }
        // A word that ends too early is a word that cannot stand there.
        for (int cut = 1; cut < "strides".length(); cut++) {
            fault(STRIDES.substring(0, cut), 0, 1);
        }
        fault(RULE + ";", 14, 1);
        fault(RULE + ";   ", 17, 1);
    }

    @Of(promise = 0, sentence = "strides that are fewer than 32, too: at what stands there);")
    static void tooFewStrides() {
        fault("strides", 7, 1);
        fault("strides;" + RULE, 7, 1);
        fault("strides  ;" + RULE, 9, 1);
        fault("strides 4 4;" + RULE, 11, 1);
        fault("strides 4 4  ;" + RULE, 13, 1);
        fault("strides 4 4 x", 12, 1);
        fault("strides 4 4/8", 11, 1);
        fault("strides 6 6 6 6 6;" + STRIDES, 17, 1);
        fault("strides 6 6 6 6 5 2", 19, 1);
        fault("strides 6 6 6 6 5 2 ;" + STRIDES, 20, 1);
        fault(STRIDES + ";strides 6 6 6 6 6", 37, 1);
    }

    @Of(promise = 0, sentence = "2 a NUMBER (where it begins) that is not as told (a stride with which there would be more than 32, too);")
    static void wrongNumbers() {
        String[] great = {"256", "1000", "2147483648", "4294967296", "4294967297", "18446744073709551616", "18446744073709551617",
            "1" + "0".repeat(300), "0000256"};
        for (String number : great) {
            fault(number + ".0.0.0/8=1 1", 0, 2);
            fault("  0.0.0." + number, 8, 2);
            fault("1.0.0.0/ " + number, 9, 2);
            fault("1.0.0.0/8= " + number + " 1", 11, 2);
            fault("1.0.0.0/8=1 " + number, 12, 2);
            fault("strides " + number, 8, 2);
        }
        fault("1.0.0.0/33=1 1", 8, 2);
        fault("1.0.0.0/8=100 1", 10, 2);
        fault("1.0.0.0/8=1 10", 12, 2);
        fault("strides 6 6 6 6 6 6", 18, 2);
        fault("strides 6 6 6 6 6 3", 18, 2);
        fault(STRIDES + " 2", 20, 2);
        fault(STRIDES + " 1", 20, 2);
        fault("strides 6 6 6 6 5 2 2", 20, 2);
        fault("strides 2 2 2 2 2 2 2 2 2 2 2 2 2 2 2 2 2", 40, 2);
    }

    @Of(promise = 0, sentence = "3 a LENGTH (where it begins) behind which VALUE has a bit that is not 0.")
    static void bitsBehindLength() {
        RouteStrides x = new RouteStrides();
        for (int length = 0; length <= 32; length++) {
            if (length > 0) {
                due("the last bit of " + length, told(x, dotted(1L << 32 - length) + "/" + length + "=1 1"), 1);
            }
            if (length < 32) {
                String value = dotted(1L << 31 - length);
                fault(value + "/" + length + "=1 1", value.length() + 1, 3);
                fault(value + "/  0" + length + "=100 1", value.length() + 3, 3);
            }
        }
        fault("255.255.255.255/31=1 1", 16, 3);
        fault(RULE + ";0.0.0.1/0=1 1", 22, 3);
    }

    private static String dotted(long value) {
        return (value >> 24 & 255) + "." + (value >> 16 & 255) + "." + (value >> 8 & 255) + "." + (value & 255);
    }

    @Of(promise = 0, sentence = "Of one place the least.")
    static void leastOfOnePlace() {
        fault("0.0.0.1/33=1 1", 8, 2);
        fault("255.255.255.255/99=1 1", 16, 2);
        fault("strides 6 6 6 6 6 7", 18, 2);
    }

    // ---- strides and nodes

    @Of(promise = 0, sentence = "STRIDES (at first eight of 4): how many bits are told by a NODE of LEVEL 0, 1, ...")
    static void firstStrides() {
        RouteStrides x = new RouteStrides();
        due("count(2)", x.count(2), 8);
        for (int level = 0; level < 8; level++) {
            due("level(" + level + ", 0)", x.level(level, 0), 4);
        }
        due("level(8, 0)", x.level(8, 0), NONE);
        due("level(-1, 0)", x.level(-1, 0), NONE);
        due("strides as they are", x.strides(44444444), -2);
        x.strides(3333333335L);
        x.add(-1, 32, 1, 1);
        // Nodes of lengths 0, 3, 6 .. 27.
        for (int n = 0; n < 10; n++) {
            due("node(" + n + ", 3)", x.node(n, 3), 0xFFFFFFFFL & ~(0xFFFFFFFFL >> 3 * n));
        }
    }

    @Of(promise = 0, sentence = "NODE 0 is of LEVEL 0, of the BEGINNING of LENGTH 0. It is always there.")
    static void nodeZero() {
        RouteStrides[] tables = {new RouteStrides(), of("0.0.0.0/0=1 1"), worked(), full()};
        for (RouteStrides x : tables) {
            due("node(0, 2)", x.node(0, 2), 0);
            due("node(0, 3)", x.node(0, 3), 0);
            due("node(0, 5)", x.node(0, 5), -1);
            due("path(-1, 0)", x.path(-1, 0), 0);
            due("level(0, 1)", x.level(0, 1), 1);
        }
        due("of no rules, count(3)", tables[0].count(3), 1);
        due("of one for all, count(3)", tables[1].count(3), 1);
    }

    @Of(promise = 0, sentence = "A NODE has a SLOT for each way its bits can be (by number): a BEGINNING longer by these.")
    static void slots() {
        long[] rows = {266666, 3333333335L, 44444444, 555566, 666662};
        for (int i = 0; i < rows.length; i++) {
            int last = (4 << i) - 1;
            RouteStrides x = new RouteStrides();
            x.strides(rows[i]);
            x.add(-1 << 30 - i, 2 + i, 1, 1);
            due("the last slot", x.slot(0, last, 1), 0);
            due("the one ahead of it", x.slot(0, last - 1, 1), NONE);
            due("no slot", x.slot(0, last + 1, 1), -3);
            due("no slot", x.slot(0, -1, 1), -3);
            due("count(3)", x.count(3), 1);
        }
    }

    @Of(promise = 0, sentence = "Have all ADDRESSES in that one HOP (or all NONE), it is a LEAF; else it leads to a NODE of the next LEVEL.")
    static void leaves() {
        RouteStrides x = of("0.0.0.0/5=1 1;8.0.0.0/5=1 1");
        due("one hop of two rules", x.slot(0, 0, 0), -1);
        due("its hop", x.slot(0, 0, 1), 0);
        due("all none", x.slot(0, 15, 0), -1);
        due("all none", x.slot(0, 15, 1), NONE);
        due("count(3)", x.count(3), 1);
        x.add(5, 32, 2, 2);
        due("one address of another hop", x.slot(0, 0, 0), 1);
        due("its hop", x.slot(0, 0, 1), -2);
        due("count(3)", x.count(3), 8);
        due("nothing behind the last level", x.node(7, 0), 0);
        due("its leaf", x.slot(7, 5, 1), 1);
        x.add(5, 32, 1, 1);
        due("one hop again", x.count(3), 1);
        RouteStrides y = of("0.0.0.0/1=1 1;128.0.0.0/1=1 1;0.0.0.0/0=2 2");
        due("all of one hop, count(3)", y.count(3), 1);
        due("all of one hop, count(5)", y.count(5), 1);
    }

    @Of(promise = 0, sentence = "NODES have numbers by LEVELS, then by VALUES.")
    static void numbersOfNodes() {
        RouteStrides x = of("255.255.255.255/32=1 1;0.0.0.0/32=1 1;127.255.255.255/32=1 1;128.0.0.0/32=1 1");
        due("count(3)", x.count(3), 1 + 7 * 4);
        long[] values = {0, 0x7FFFFFFFL, 0x80000000L, 0xFFFFFFFFL};
        for (int n = 1; n < 29; n++) {
            int level = (n - 1) / 4 + 1;
            due("node(" + n + ", 2)", x.node(n, 2), level);
            due("node(" + n + ", 3)", x.node(n, 3), values[(n - 1) % 4] & ~(0xFFFFFFFFL >> 4 * level));
            due("node(" + n + ", 5)", x.node(n, 5), Math.max(0, n - 4));
        }
    }

    @Of(promise = 0, sentence = "CHILD bits of a NODE: of SLOTS that lead to NODES (SLOT 0 is 1).")
    static void childBits() {
        RouteStrides x = new RouteStrides();
        x.strides(666662);
        due("none", x.node(0, 0), 0);
        x.add(0, 7, 1, 1);
        due("slot 0", x.node(0, 0), 1);
        x.add(-1 << 25, 7, 1, 1);
        due("slots 0 and 63", x.node(0, 0), 1 | 1L << 63);
        x.add(HIGH, 7, 1, 1);
        due("slots 0, 32 and 63", x.node(0, 0), 1 | 1L << 32 | 1L << 63);
        x.withdraw(0, 7);
        x.withdraw(HIGH, 7);
        due("slot 63", x.node(0, 0), Long.MIN_VALUE);
    }

    @Of(promise = 0, sentence = "RUN bits: of LEAVES, if the LEAF ahead of it in that NODE (the nearest; SLOTS that lead on do not count) has another HOP, or there is none.")
    static void runBits() {
        RouteStrides x = new RouteStrides();
        x.strides(266666);
        due("all of none", x.node(0, 1), 1);
        x.add(0, 3, 1, 1);
        due("slot 0 leads on", x.node(0, 1), 2);
        x.add(HIGH, 3, 1, 1);
        due("slots 0 and 2 lead on", x.node(0, 1), 2);
        x.add(3 << 30, 2, 2, 2);
        due("the nearest leaf has none", x.node(0, 1), 2 | 8);
        x.add(1 << 30, 2, 2, 2);
        due("the nearest leaf has that hop", x.node(0, 1), 2);
        x.add(1 << 30, 3, 1, 1);
        due("slots 0, 1, 2 lead on", x.node(0, 1), 8);
        x.add(3 << 30, 3, 1, 1);
        due("all lead on", x.node(0, 1), 0);
        due("nothing is stored", x.node(0, 4), 0);
        RouteStrides y = new RouteStrides();
        y.strides(666662);
        for (int slot = 0; slot < 64; slot += 2) {
            y.add(slot << 26, 6, 1, 1);
        }
        due("64 runs", y.node(0, 1), -1L);
        due("64 are stored", y.node(0, 4), 64);
        due("the last place", y.look(-1, 3), 63);
    }

    @Of(promise = 0, sentence = "STORED: HOPS of LEAVES with a RUN bit, in their order.")
    static void storedHops() {
        RouteStrides x = of("0.0.0.0/2=1 1;128.0.0.0/2=1 1;192.0.0.0/2=2 2;strides 2 6 6 6 6 6");
        int[] want = {0, NONE, 0, 1, -2};
        for (int i = 0; i < want.length; i++) {
            due("stored(0, " + i + ")", x.stored(0, i), want[i]);
        }
        due("count(5)", x.count(5), 4);
        due("of no rules", new RouteStrides().stored(0, 0), NONE);
        due("of no rules", new RouteStrides().stored(0, 1), -2);
    }

    @Of(promise = 0, sentence = "Two NODES of one LEVEL are LIKE, if their SLOTS are: LEAVES of one HOP, or leading to LIKE ones.")
    static void likeNodes() {
        RouteStrides x = of("0.0.0.0/32=1 1;128.0.0.0/32=1 1;192.0.0.0/32=2 2;255.255.255.255/32=1 1");
        // Of each level but the first: 0.., 128.., 192.. and 255...
        for (int n = 1; n < 29; n += 4) {
            due("a node and itself", x.alike(n, n), 1);
            due("of one way down to the last", x.alike(n, n + 1), 1);
            due("of another hop at the last", x.alike(n, n + 2), 0);
            due("of another slot at the last", x.alike(n, n + 3), 0);
        }
        due("of two levels", x.alike(1, 5), NONE);
        due("count(4)", x.count(4), 1 + 7 * 3);
        // Another number ahead in the row of leaves is another leaf.
        RouteStrides y = of("0.0.0.0/5=1 1;16.0.0.0/5=1 1;24.0.0.0/5=2 2");
        due("half none, half another hop", y.alike(1, 2), 0);
        // 60 addresses of 60 hops: nodes have the same bits down to the last level, and none are like.
        RouteStrides z = new RouteStrides();
        z.strides(266666);
        for (int i = 0; i < 60; i++) {
            z.add(i << 26, 32, i, 0);
        }
        due("of 60 hops, nodes", z.count(3), 1 + 4 + 4 * 60);
        due("of 60 hops, unlike nodes", z.count(4), 1 + 4 + 4 * 60);
        for (int n = 6; n < 65; n++) {
            due("alike(5, " + n + ")", z.alike(5, n), 0);
        }
        // 30 nodes of level 1, each of which leads to two, all of the same bits.
        RouteStrides w = new RouteStrides();
        w.strides(555566);
        for (int i = 0; i < 60; i++) {
            w.add(i / 2 << 27 | i % 2 << 22, 32, i, 0);
        }
        due("leading to two, level(1, 1)", w.level(1, 1), 30);
        due("leading to two, level(1, 3)", w.level(1, 3), 30);
        due("leading to two, alike(1, 2)", w.alike(1, 2), 0);
        for (int i = 0; i < 60; i++) {
            w.add(i / 2 << 27 | i % 2 << 22, 32, i % 2, 0);
        }
        due("leading to two of two hops, level(1, 3)", w.level(1, 3), 1);
        due("leading to two of two hops, level(2, 3)", w.level(2, 3), 2);
    }

    // ---- touched

    @Of(promise = 0, sentence = "TOUCHED by the last ACT that was done (0 at first, and behind UNDONE, KEPT ones gone back to, a text told):")
    static void touchedByTheLastAct() {
        RouteStrides x = new RouteStrides();
        due("at first", x.count(8), 0);
        due("undo() of none", x.undo(), NONE);
        x.keep(0);
        x.add(0, 32, 1, 1);
        due("behind add", x.count(8), 8);
        x.add(0, 32, 1, 1);
        x.add(0, 33, 1, 1);
        x.withdraw(0, 31);
        x.range(1, 0, 1, 1);
        x.strides(5);
        x.back(1);
        x.keep(1);
        told(x, "x");
        due("behind what was not done", x.count(8), 8);
        x.add(0, 31, 2, 2);
        due("behind add", x.count(8), 1);
        x.undo();
        due("behind undo", x.count(8), 0);
        x.withdraw(0, 32);
        due("behind withdraw", x.count(8), 8);
        x.back(0);
        due("behind back", x.count(8), 0);
        x.range(0, 0, 1, 1);
        due("behind range", x.count(8), 8);
        told(x, RULE);
        due("behind tell", x.count(8), 0);
        x.gather();
        due("behind gather, which was not done", x.count(8), 0);
    }

    @Of(promise = 0, sentence = "NODES (by LEVEL and VALUE) that are there just ahead of it, or just behind it, or whose CHILD bits, RUN bits or STORED are others.")
    static void touchedNodes() {
        RouteStrides x = new RouteStrides();
        x.add(0, 4, 1, 1);
        due("run bits and stored", x.count(8), 1);
        x.add(0, 4, 2, 2);
        due("stored alone", x.count(8), 1);
        x.add(1 << 28, 4, 2, 2);
        due("run bits alone", x.count(8), 1);
        x.add(5 << 28, 5, 1, 1);
        due("child bits, and a node just behind", x.count(8), 2);
        x.add(5 << 28, 5, 3, 3);
        due("stored of a node of level 1 alone", x.count(8), 1);
        x.withdraw(5 << 28, 5);
        due("child bits, and a node just ahead", x.count(8), 2);
        x.add(5 << 28, 4, 2, 2);
        due("run bits and stored", x.count(8), 1);
        x.add(5 << 28, 20, 2, 2);
        due("nothing", x.count(8), 0);
        x.withdraw(5 << 28, 4);
        // 20 bits: nodes of levels 1, 2, 3, 4 come.
        due("node 0 and four just behind", x.count(8), 5);
        // Levels 1 to 4 had 80.0.0.0 each. Now level 1 has 0.0.0.0 and 64.0.0.0, level 2 has
        // 80.0.0.0 with the bits that it had, level 3 has it with a leaf in slot 0, level 4 is empty.
        x.strides(266666);
        due("strides: node 0, three of level 1, one of levels 3 and 4 each", x.count(8), 6);
        RouteStrides y = new RouteStrides();
        y.strides(266666);
        due("strides of no rules", y.count(8), 0);
        // Nodes of other VALUES, on both sides and of lower levels, are as they were.
        RouteStrides z = of("16.0.0.0/12=1 1;240.0.0.0/12=1 1");
        z.add(HIGH, 5, 1, 1);
        due("between others: node 0 and one", z.count(8), 2);
        z.add(0, 5, 1, 1);
        due("ahead of others: node 0 and one", z.count(8), 2);
        z.add(HIGH, 13, 2, 2);
        due("under one: itself, and two just behind", z.count(8), 3);
        z.withdraw(240 << 24, 12);
        due("behind others: node 0 and two just ahead", z.count(8), 3);
        z.withdraw(0, 5);
        due("ahead of others: node 0 and one", z.count(8), 2);
        due("would be behind others: node 0 and seven", z.would(-1, 32, 1, 1), 8);
        // The last of its level comes or goes, where the others go on with the next level.
        RouteStrides w = of("16.0.0.0/12=1 1");
        w.add(240 << 24, 5, 1, 1);
        due("the last of level 1 comes", w.count(8), 2);
        w.withdraw(240 << 24, 5);
        due("the last of level 1 goes", w.count(8), 2);
    }

    @Of(promise = 0, sentence = "(HOPS as GATE and PORT.)")
    static void touchedByGateAndPort() {
        RouteStrides x = of("0.0.0.0/4=1 1");
        x.add(0, 4, 2, 2);
        due("the same number", x.look(0, 0), 0);
        due("another way of that number", x.count(8), 1);
        RouteStrides y = of("0.0.0.0/4=1 1;0.0.0.0/5=2 2;8.0.0.0/5=2 2");
        y.withdraw(0, 4);
        due("hop 1 as ever", y.look(0, 0), 1);
        due("an idle rule goes", y.count(8), 0);
        RouteStrides z = of("0.0.0.0/4=7 7;255.0.0.0/8=8 8");
        due("would, the same way", z.would(0, 5, 7, 7), 0);
        due("would, another way", z.would(0, 4, 8, 8), 1);
    }

    // ---- spans, ranges, the fewest

    @Of(promise = 0, sentence = "SPANS: rows of ADDRESSES of one HOP (or NONE), as long as they go on, rising.")
    static void mostSpans() {
        RouteStrides x = new RouteStrides();
        due("one of no rules", x.count(6), 1);
        for (int i = 0; i < 60; i++) {
            x.add(2 * i + 1, 32, 1, 1);
        }
        due("121 of 60 rules", x.count(6), 121);
        for (int k = 0; k < 120; k++) {
            due("span(" + k + ", 0)", x.span(k, 0), k);
            due("span(" + k + ", 2)", x.span(k, 2), k % 2 - 1);
        }
        due("the last one", x.span(120, 0), 120);
        due("the last one", x.span(120, 1), 0xFFFFFFFFL);
        due("none behind it", x.span(121, 0), -2);
        RouteStrides y = of("1.0.0.0/8=1 1;2.0.0.0/8=1 1;3.0.0.0/8=2 2;0.0.0.0/0=1 1");
        due("rules of one hop in a row", y.count(6), 3);
        due("from 0 on", y.span(0, 1), 0x02FFFFFFL);
    }

    @Of(promise = 0, sentence = "IDLE: a RULE that is no ADDRESS's.")
    static void idleRules() {
        RouteStrides x = of("0.0.0.0/30=1 1;0.0.0.0/31=1 1;0.0.0.2/32=1 1");
        due("one address is left", x.rule(0, 3), 0);
        due("count(7)", x.count(7), 0);
        x.add(3, 32, 1, 1);
        due("none is left, though of one hop", x.rule(0, 3), 1);
        due("count(7)", x.count(7), 1);
        due("an address alone is never idle", x.rule(3, 3), 0);
    }

    @Of(promise = 0, sentence = "A RANGE from one ADDRESS to another one: the fewest BEGINNINGS in which just these ADDRESSES lie, no two of which lie in one another, rising;")
    static void rangesAtTheirEdges() {
        RouteStrides x = new RouteStrides();
        due("all", x.cover(0, -1, NONE, 0), 1);
        due("all but the first", x.cover(1, -1, NONE, 0), 32);
        due("all but the last", x.cover(0, -2, NONE, 0), 32);
        due("all but both", x.cover(1, -2, NONE, 0), 62);
        due("the first alone", x.cover(0, 0, 0, 0), 32);
        due("the last alone", x.cover(-1, -1, 0, 1), 0xFFFFFFFFL);
        due("two over the middle", x.cover(Integer.MAX_VALUE, HIGH, NONE, 0), 2);
        due("two of one beginning", x.cover(6, 7, NONE, 0), 1);
        due("two of two beginnings", x.cover(7, 8, NONE, 0), 2);
        for (int k = 0; k < 32; k++) {
            due("all but the first, length " + k, x.cover(1, -1, k, 0), 32 - k);
            due("all but the first, value " + k, x.cover(1, -1, k, 1), 1L << k);
            due("all but the last, length " + k, x.cover(0, -2, k, 0), k + 1);
        }
    }

    @Of(promise = 0, sentence = "added, each comes as if by itself, one behind the other.")
    static void rangesComeOneByOne() {
        RouteStrides x = of("0.0.0.1/32=1 1;0.0.0.2/31=2 2");
        due("range", x.range(1, 3, 3, 3), 2);
        due("the first one's number was free", x.look(1, 0), 0);
        due("hop(1, 0)", x.hop(1, 0), NONE);
        RouteStrides y = of("0.0.0.1/32=1 1;0.0.0.2/31=2 2;0.0.0.9/32=1 1");
        due("range", y.range(1, 3, 3, 3), 2);
        due("neither was free when the first one came", y.look(3, 0), 2);
        due("hop(1, 0)", y.hop(1, 0), NONE);
        due("count(1)", y.count(1), 2);
    }

    @Of(promise = 0, sentence = "THE FEWEST: a BEGINNING of which not all ADDRESSES have one HOP is parted into both that are longer by one bit, and so on.")
    static void partedDown() {
        RouteStrides x = of("255.255.255.255/32=1 1");
        due("of one address", x.fewest(NONE, 0), 1);
        due("of one address, length", x.fewest(0, 0), 32);
        due("of one address, value", x.fewest(0, 1), 0xFFFFFFFFL);
        RouteStrides y = of("0.0.0.0/1=1 1;128.0.0.0/1=1 1");
        due("all of one hop", y.fewest(NONE, 0), 1);
        due("all of one hop, length", y.fewest(0, 0), 0);
        due("of none", new RouteStrides().fewest(NONE, 0), 0);
    }

    @Of(promise = 0, sentence = "Of one that is not parted the SET is its HOP (or NONE) alone; else that of what both SETS have in common, if that is anything, else of both together.")
    static void setsOfBeginnings() {
        // Quarters 0 1 0 2: both halves have 0 in common.
        RouteStrides x = of("0.0.0.0/2=1 1;64.0.0.0/2=2 2;128.0.0.0/2=1 1;192.0.0.0/2=3 3");
        same("0 1 0 2", few(x), "0/0=0 1073741824/2=1 3221225472/2=2 ");
        // Quarters 1 0 2 0: likewise, whatever stands first.
        RouteStrides y = eighths(1, 1, 0, 0, 2, 2, 0, 0);
        same("1 0 2 0", few(y), "0/0=0 0/2=1 2147483648/2=2 ");
        // Quarters 0 1 2 3: nothing in common, the least of all is on top.
        RouteStrides z = of("0.0.0.0/2=1 1;64.0.0.0/2=2 2;128.0.0.0/2=3 3;192.0.0.0/2=4 4");
        same("0 1 2 3", few(z), "0/0=0 1073741824/2=1 2147483648/1=2 3221225472/2=3 ");
    }

    /** A table in which each eighth of all addresses has a hop of that number. */
    private static RouteStrides eighths(int... hops) {
        RouteStrides x = new RouteStrides();
        for (int hop = 0; hop < 8; hop++) {
            for (int i = 0; i < 8; i++) {
                if (hops[i] == hop) {
                    due("add of hop " + hop, x.add(i << 29, 3, hop, 0), hop);
                }
            }
        }
        return x;
    }

    private static String few(RouteStrides x) {
        StringBuilder rules = new StringBuilder();
        for (int k = 0; k < x.fewest(NONE, 0); k++) {
            rules.append(x.fewest(k, 1)).append('/').append(x.fewest(k, 0)).append('=').append(x.fewest(k, 2)).append(' ');
        }
        return rules.toString();
    }

    @Of(promise = 0, sentence = "From the BEGINNING of LENGTH 0 on, for which NONE is HANDED: is what is HANDED in the SET, no RULE is needed there, and it is HANDED on; else there is one, of the least number of the SET (NONE is the least), which is HANDED on.")
    static void handedOn() {
        same("a half of none", few(of("128.0.0.0/1=1 1")), "2147483648/1=0 ");
        // Quarters 0 0 0 none: 0 is on top, and none must be told again.
        same("a quarter of none", few(of("0.0.0.0/1=1 1;128.0.0.0/2=1 1")), "0/0=0 3221225472/2=-1 ");
        // 0 in three quarters, an eighth of none, an eighth of 1: of the last quarter none is the least.
        same("none and 1 under 0", few(eighths(0, 0, 0, 0, 0, 0, NONE, 1)), "0/0=0 3221225472/2=-1 3758096384/3=1 ");
        // The same with 2 in place of none: the least number is 1, though 2 stands first.
        same("2 and 1 under 0", few(eighths(0, 0, 0, 0, 0, 0, 2, 1)),
            "0/0=0 3221225472/2=1 3221225472/3=2 ");
        // None in three quarters: nothing is needed on top, for none is handed there.
        same("a quarter of 0", few(of("0.0.0.0/2=1 1")), "0/2=0 ");
    }

    @Of(promise = 0, sentence = "GATHERED: THE FEWEST are the RULES.")
    static void gatheredRules() {
        RouteStrides x = of("0.0.0.0/2=1 1;64.0.0.0/2=2 2;128.0.0.0/2=1 1;192.0.0.0/2=3 3");
        String few = few(x);
        due("gather()", x.gather(), 3);
        due("count(0)", x.count(0), 3);
        due("rule(0, 1)", x.rule(0, 1), 0);
        due("rule(1, 0)", x.rule(1, 0), 1 << 30);
        due("rule(2, 2)", x.rule(2, 2), 2);
        for (int hop = 0; hop < 3; hop++) {
            due("one has hop " + hop, x.hop(hop, 2), 1);
        }
        same("the fewest of these", few(x), few);
    }

    // ---- acts and shelves

    @Of(promise = 0, sentence = "ACTS: a RULE added, withdrawn, a RANGE added, STRIDES told, GATHERED.")
    static void acts() {
        RouteStrides x = new RouteStrides();
        x.add(0, 2, 1, 1);
        due("behind add", x.count(9), 1);
        x.add(0, 2, 2, 2);
        due("behind add of another hop", x.count(9), 2);
        x.range(1 << 30, 0x7FFFFFFF, 2, 2);
        due("behind range", x.count(9), 3);
        x.strides(266666);
        due("behind strides", x.count(9), 4);
        x.gather();
        due("behind gather", x.count(9), 5);
        x.withdraw(0, 1);
        due("behind withdraw", x.count(9), 6);
        x.keep(0);
        x.feed(1, 2, 3, 4, 5);
        x.end(0);
        x.would(0, 0, 1, 1);
        x.look(0, 3);
        due("behind what is none", x.count(9), 6);
        x.undo();
        due("behind undo", x.count(9), 5);
    }

    @Of(promise = 0, sentence = "The last 10 can be UNDONE, the last first.")
    static void tenActs() {
        for (int acts = 9; acts <= 12; acts++) {
            RouteStrides x = new RouteStrides();
            for (int i = 0; i < acts; i++) {
                x.add(i, 32, i, 0);
            }
            int most = Math.min(acts, 10);
            due("count(9) behind " + acts, x.count(9), most);
            for (int i = most - 1; i >= 0; i--) {
                due("undo()", x.undo(), i);
                due("count(0)", x.count(0), acts - most + i);
            }
            due("undo() of one more", x.undo(), NONE);
            due("count(0)", x.count(0), acts - most);
        }
    }

    @Of(promise = 0, sentence = "SHELVES 0, 1: RULES, HOPS (with their numbers), STRIDES.")
    static void twoShelves() {
        RouteStrides x = of("1.0.0.0/8=1 1;2.0.0.0/8=2 2");
        x.withdraw(ip(1, 0, 0, 0), 8);
        x.strides(266666);
        due("keep(0)", x.keep(0), 1);
        told(x, "3.0.0.0/8=3 3;4.0.0.0/8=4 4");
        due("keep(1)", x.keep(1), 2);
        due("keep(2)", x.keep(2), NONE);
        due("keep(-1)", x.keep(-1), NONE);
        due("back(0)", x.back(0), 1);
        due("hop(0, 0)", x.hop(0, 0), NONE);
        due("hop(1, 0)", x.hop(1, 0), 2);
        due("count(2)", x.count(2), 6);
        due("back(1)", x.back(1), 2);
        due("hop(0, 0)", x.hop(0, 0), 3);
        due("count(2)", x.count(2), 8);
        due("back(2)", x.back(2), NONE);
        due("back(-1)", x.back(-1), NONE);
    }

    @Of(promise = 0, sentence = "The constants: `NONE = -1`: None.")
    static void constants() {
        due("NONE", RouteStrides.NONE, -1);
    }
}
