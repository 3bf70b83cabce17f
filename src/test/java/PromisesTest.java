/** Each promise of the document with answers worked out by hand from its words. */
public final class PromisesTest extends Tables {
    public static void main(String[] args) {
        newObject();
        tape();
        texts();
        faults();
        adding();
        hopNumbers();
        withdrawing();
        ranges();
        strides();
        gathering();
        undoing();
        shelves();
        looking();
        paths();
        wouldBeTouched();
        withins();
        differing();
        rules();
        hops();
        nodes();
        likeness();
        levels();
        spans();
        covers();
        owns();
        bests();
        fewests();
        means();
        counts();
        finish("PromisesTest");
    }

    private static void newObject() {
        about = "promise 1";
        RouteStrides x = new RouteStrides();
        due("NONE", RouteStrides.NONE, -1);
        int[] want = {0, 0, 8, 1, 1, 1, 1, 0, 0, 0, 0, 0, 1};
        for (int i = 0; i < want.length; i++) {
            due("count(" + i + ")", x.count(i), want[i]);
        }
        due("look(5, 0)", x.look(5, 0), NONE);
        due("stored(0, 0)", x.stored(0, 0), NONE);
        for (int i = 0; i < 8; i++) {
            due("level(" + i + ", 0)", x.level(i, 0), 4);
        }
    }

    private static void tape() {
        about = "promise 2";
        RouteStrides x = new RouteStrides();
        for (int i = 1; i <= 20; i++) {
            due("feed " + i, x.feed(i, i, i, i, i), 20 * i);
        }
        due("feed 21", x.feed(1, 2, 3, 4, 5), NONE);
        due("count(10)", x.count(10), 400);
        x.end(381);
        due("feed behind 381", x.feed(1, 2, 3, 4, 5), NONE);
        x.end(380);
        due("feed behind 380", x.feed(1, 2, 3, 4, 5), 400);
        // "0.0.", "0.0/", "0=1 ", "2   ", "    ": the highest byte of each number is the first.
        x.end(0);
        due("feed of a text", x.feed(0x302E302E, 0x302E302F, 0x303D3120, 0x32202020, 0x20202020), 20);
        due("tell()", x.tell(), 1);
        due("hop(0, 0)", x.hop(0, 0), 1);
        due("hop(0, 1)", x.hop(0, 1), 2);
        about = "promise 3";
        due("end(1)", x.end(1), NONE);
        due("end(0)", x.end(0), 0);
        x.feed(1, 2, 3, 4, 5);
        due("end(-1)", x.end(-1), NONE);
        due("end(21)", x.end(21), NONE);
        due("count(10)", x.count(10), 20);
        due("end(20)", x.end(20), 20);
        due("end(7)", x.end(7), 7);
        due("end(8)", x.end(8), NONE);
        due("count(10)", x.count(10), 7);
        due("end(MIN)", x.end(Integer.MIN_VALUE), NONE);
    }

    private static void texts() {
        about = "promise 4";
        RouteStrides x = new RouteStrides();
        x.add(0, 0, 1, 1);
        x.strides(266666);
        x.keep(1);
        due("tell()", told(x, " 10.0.0.0 / 8 = 5 1 ; 10.0.0.0/8=7 7;strides 6 6 6 6 4 4;255.0.0.0/8=5 1"), 2);
        due("count(10)", x.count(10), 0);
        due("count(9)", x.count(9), 0);
        due("count(8)", x.count(8), 0);
        due("count(11)", x.count(11), 2);
        due("undo()", x.undo(), NONE);
        due("rule(0, 0)", x.rule(0, 0), ip(10, 0, 0, 0));
        due("rule(1, 0)", x.rule(1, 0), ip(255, 0, 0, 0));
        due("hop(0, 0)", x.hop(0, 0), 7);
        due("hop(0, 1)", x.hop(0, 1), 7);
        due("hop(1, 0)", x.hop(1, 0), 5);
        due("count(2)", x.count(2), 6);
        due("level(4, 0)", x.level(4, 0), 4);
        due("level(0, 0)", x.level(0, 0), 6);
        due("back(1)", x.back(1), 1);
        due("tell() of strides alone", told(x, "strides4 4 4 4 4 4 4 4;  strides 266666".replace("266666", "2 6 6 6 6 6")), 0);
        due("count(2)", x.count(2), 6);
        due("level(0, 0)", x.level(0, 0), 2);
        due("count(0)", x.count(0), 0);
        due("tell() without strides", told(x, "1.2.3.4/32=99 9"), 1);
        due("count(2)", x.count(2), 8);
        due("rule(0, 0)", x.rule(0, 0), ip(1, 2, 3, 4));
        due("tell() with noughts ahead", told(x, "0001.00.0.0/00008=0000000000000000012 000000000000000000003"), 1);
        due("hop(0, 0)", x.hop(0, 0), 12);
        due("hop(0, 1)", x.hop(0, 1), 3);
        // Lines come one behind the other: the first rule's hop 0 is gone when it has hop 1.
        due("tell()", told(x, "1.0.0.0/8=1 1;2.0.0.0/8=2 2;1.0.0.0/8=2 2"), 2);
        due("look", x.look(ip(1, 0, 0, 0), 0), 1);
        due("hop(0, 0)", x.hop(0, 0), NONE);
    }

    private static void faults() {
        about = "promise 4";
        fault("", 0, 1);
        fault("    ", 4, 1);
        fault("10.0.0.0/8 = 5", 14, 1);
        fault("10.0.0.0/8 = 5  ", 16, 1);
        fault("10.0.0.0/8=55;", 13, 1);
        fault("10.0.0.256/8", 7, 2);
        fault("99999999999999999999.0.0.256/8", 0, 2);
        fault("10.0.0.0/33", 9, 2);
        fault("10.0.0.1/33", 9, 2);
        fault("10.0.0.1/8=1 1", 9, 3);
        fault("10.0.0.1/  31=100 1", 11, 3);
        fault("128.0.0.0/0=1 1", 10, 3);
        fault("10.0.0/8", 6, 1);
        fault("10.0.0.0.0/8", 8, 1);
        fault("10 0.0.0/8", 3, 1);
        fault("1.0.0.0/8=100 1", 10, 2);
        fault("1.0.0.0/8=1 10", 12, 2);
        fault("1.0.0.0/8=1 1;", 14, 1);
        fault("1.0.0.0/8=1 1; ", 15, 1);
        fault("1.0.0.0/8=1 1;;", 14, 1);
        fault(";1.0.0.0/8=1 1", 0, 1);
        fault("1.0.0.0/8=1 1 1", 14, 1);
        fault("1.0.0.0/8=1 1strides", 13, 1);
        fault("-1.0.0.0/8=1 1", 0, 1);
        fault("1.0.0.0/-8=1 1", 8, 1);
        fault("1.0.0.0/8=1,1", 11, 1);
        fault("strides", 7, 1);
        fault("strides ;", 8, 1);
        fault("strides 4 4", 11, 1);
        fault("strides 4 4 ; 1.0.0.0/8=1 1", 12, 1);
        fault("strides 4 x", 10, 1);
        fault("strides 7", 8, 2);
        fault("strides 1", 8, 2);
        fault("strides 44444444", 8, 2);
        fault("strides 6 6 6 6 6 6", 18, 2);
        fault("strides 6 6 6 6 6 2 2", 20, 2);
        fault("strides 4 4 4 4 4 4 4 4 2", 24, 2);
        fault("strides 6 6 6 6 5 2", 19, 1);
        fault("strides 6 6 6 6 5 2 2", 20, 2);
        fault("strides 6 6 6 6 6 2 s", 20, 1);
        fault("stride 4", 0, 1);
        fault("  stridess 6 6 6 6 6 2", 2, 1);
        fault("Strides 6 6 6 6 6 2", 0, 1);
        fault("strides 6 6 6 6 6 2\0", 19, 1);
        fault("\t1.0.0.0/8=1 1", 0, 1);
        fault("1.0.0.0/8=1 1;\377", 14, 1);
    }

    private static void fault(String text, int place, int kind) {
        RouteStrides x = halved();
        x.strides(266666);
        due("tell() of \"" + text + "\"", told(x, text), -2 - (8 * place + kind));
        due("count(10) behind \"" + text + "\"", x.count(10), 0);
        due("count(0)", x.count(0), 2);
        due("count(2)", x.count(2), 6);
        due("count(9)", x.count(9), 3);
        due("count(8) is not 0", x.count(8) > 0 ? 1 : 0, 1);
    }

    private static void adding() {
        about = "promise 5";
        RouteStrides x = new RouteStrides();
        due("add", x.add(ip(10, 0, 0, 0), 8, 5, 1), 0);
        due("add again", x.add(ip(10, 0, 0, 0), 8, 5, 1), -2);
        due("count(9)", x.count(9), 1);
        due("add of a longer one", x.add(ip(10, 0, 0, 0), 9, 5, 1), 0);
        due("add of another way", x.add(ip(10, 0, 0, 0), 16, 5, 2), 1);
        due("add of another port", x.add(ip(10, 0, 0, 0), 9, 5, 2), 1);
        due("count(0)", x.count(0), 3);
        due("add of length 0", x.add(0, 0, 99, 9), 2);
        due("add of length 32", x.add(-1, 32, 0, 0), 3);
        int acts = x.count(9);
        due("length 33", x.add(0, 33, 1, 1), NONE);
        due("length -1", x.add(0, -1, 1, 1), NONE);
        due("a bit behind", x.add(ip(10, 128, 0, 0), 8, 1, 1), NONE);
        due("a bit behind 0", x.add(1 << 31, 0, 1, 1), NONE);
        due("a bit behind 31", x.add(1, 31, 1, 1), NONE);
        due("gate 100", x.add(0, 1, 100, 1), NONE);
        due("gate -1", x.add(0, 1, -1, 1), NONE);
        due("port 10", x.add(0, 1, 1, 10), NONE);
        due("port -1", x.add(0, 1, 1, -1), NONE);
        due("count(9)", x.count(9), acts);
        due("count(0)", x.count(0), 5);
        RouteStrides f = full();
        due("rule 61", f.add(0, 1, 0, 0), -3);
        due("rule 61 of no gate", f.add(0, 1, 100, 0), NONE);
        due("the last of 60, again", f.add(59 * 4, 30, 59, 0), -2);
        due("the last of 60, another way", f.add(59 * 4, 30, 0, 0), 0);
        due("count(0)", f.count(0), 60);
        due("count(1)", f.count(1), 59);
    }

    private static void hopNumbers() {
        about = "promise 5";
        RouteStrides x = new RouteStrides();
        x.add(0, 1, 1, 1);
        x.add(0, 2, 2, 2);
        x.add(0, 3, 3, 3);
        due("another way takes the number that it had", x.add(0, 2, 4, 4), 1);
        due("a way that is there", x.add(0, 1, 3, 3), 2);
        due("hop(0, 0)", x.hop(0, 0), NONE);
        due("hop(2, 2)", x.hop(2, 2), 2);
        due("count(1)", x.count(1), 2);
        due("the least free number", x.add(0, 4, 5, 5), 0);
        due("the next one", x.add(0, 5, 6, 6), 3);
        due("the number of a lower free one", x.withdraw(0, 4), 4);
        due("of a rule alone with its hop", x.add(0, 5, 7, 7), 0);
        due("hop(3, 0)", x.hop(3, 0), NONE);
    }

    private static void withdrawing() {
        about = "promise 6";
        RouteStrides x = halved();
        due("withdraw of none", x.withdraw(1 << 31, 2), NONE);
        due("withdraw of no beginning", x.withdraw(1, 1), NONE);
        due("withdraw of length 33", x.withdraw(0, 33), NONE);
        due("withdraw of length -1", x.withdraw(0, -1), NONE);
        due("count(9)", x.count(9), 2);
        due("withdraw", x.withdraw(1 << 31, 1), 1);
        due("count(1)", x.count(1), 1);
        due("hop(0, 0)", x.hop(0, 0), NONE);
        due("hop(1, 1)", x.hop(1, 1), 4);
        due("rule(0, 1)", x.rule(0, 1), 6);
        due("withdraw", x.withdraw(1 << 31, 6), 0);
        due("withdraw", x.withdraw(1 << 31, 6), NONE);
        due("count(9)", x.count(9), 4);
    }

    private static void ranges() {
        about = "promise 7";
        RouteStrides x = new RouteStrides();
        // 1, 2-3, 4-7, 8-9, 10
        due("range", x.range(1, 10, 3, 3), 5);
        due("count(0)", x.count(0), 5);
        due("count(1)", x.count(1), 1);
        due("count(9)", x.count(9), 1);
        due("rule(2, 1)", x.rule(2, 1), 30);
        due("range again", x.range(1, 10, 3, 3), -2);
        due("a part of it", x.range(2, 3, 3, 3), -2);
        due("count(9)", x.count(9), 1);
        due("another way", x.range(1, 10, 4, 4), 5);
        due("count(0)", x.count(0), 5);
        // While the first pieces have 4 4 already, the others still have hop 0.
        due("hop(0, 0)", x.hop(0, 0), NONE);
        due("hop(1, 0)", x.hop(1, 0), 4);
        due("one address", x.range(7, 7, 1, 1), 1);
        due("all", x.range(0, -1, 2, 2), 1);
        due("from above to", x.range(2, 1, 1, 1), NONE);
        due("from above to without sign", x.range(-1, 1, 1, 1), NONE);
        due("gate 100", x.range(1, 2, 100, 1), NONE);
        due("port -1", x.range(1, 2, 1, -1), NONE);
        due("62 pieces", x.range(1, -2, 1, 1), -3);
        due("count(0)", x.count(0), 7);
        due("undo()", x.undo(), 3);
        RouteStrides f = full();
        due("more than 60", f.range(0, 2, 1, 1), -3);
        due("60 as ever", f.range(0, 7, 1, 1), -3);
        due("rules that are there", f.range(0, 3, 77, 1), 1);
        due("wrong ahead of full", f.range(3, 0, 77, 1), NONE);
        due("count(0)", f.count(0), 60);
        due("count(9)", f.count(9), 10);
    }

    private static void strides() {
        about = "promise 8";
        RouteStrides x = new RouteStrides();
        due("as they are", x.strides(44444444), -2);
        due("six", x.strides(666662), 6);
        due("again", x.strides(666662), -2);
        due("another order", x.strides(266666), 6);
        due("sixteen", x.strides(2222222222222222L), 16);
        due("count(2)", x.count(2), 16);
        long[] bad = {0, -44444444, 4444444, 444444444, 84444444, 77666, 44444440, 1666666, 111, Long.MAX_VALUE,
            Long.MIN_VALUE, 22222222222222222L, 2222222222222221L, 444444440L};
        for (long digits : bad) {
            due("strides(" + digits + ")", x.strides(digits), NONE);
        }
        due("count(9)", x.count(9), 3);
        due("undo()", x.undo(), 2);
        due("level(0, 0)", x.level(0, 0), 2);
        due("level(5, 0)", x.level(5, 0), 6);
        due("level(6, 0)", x.level(6, 0), NONE);
    }

    private static void gathering() {
        about = "promise 9";
        RouteStrides x = new RouteStrides();
        due("of nothing", x.gather(), -3);
        x.add(0, 2, 1, 1);
        x.add(1 << 30, 2, 1, 1);
        x.add(0, 8, 2, 2);
        x.add(0, 9, 2, 2);
        x.add(1 << 23, 9, 3, 3);
        x.add(0, 10, 4, 4);
        x.add(1 << 22, 10, 5, 5);
        x.withdraw(0, 9);
        // Of 0/8 all addresses have 3 3, 4 4 or 5 5, so that 2 2 goes; 0/1 takes both quarters.
        due("gather", x.gather(), 4);
        due("count(0)", x.count(0), 4);
        due("count(1)", x.count(1), 4);
        due("count(9)", x.count(9), 9);
        due("hop(1, 0)", x.hop(1, 0), NONE);
        due("hop(0, 2)", x.hop(0, 2), 1);
        due("again", x.gather(), -3);
        due("undo()", x.undo(), 8);
        due("count(0)", x.count(0), 6);
        due("hop(1, 0)", x.hop(1, 0), 2);
        // 0/1 has 1 1 but for one address each of a hop that is NONE: a rule of no hop is needed.
        RouteStrides y = new RouteStrides();
        y.range(0, 4, 1, 1);
        y.range(6, Integer.MAX_VALUE, 1, 1);
        int acts = y.count(9);
        due("a rule of none", y.gather(), -2);
        due("count(9)", y.count(9), acts);
    }

    private static void undoing() {
        about = "promise 10";
        RouteStrides x = new RouteStrides();
        due("undo of nothing", x.undo(), NONE);
        for (int i = 0; i < 12; i++) {
            x.add(i, 32, i, 0);
        }
        due("count(9)", x.count(9), 10);
        for (int i = 9; i >= 0; i--) {
            due("undo", x.undo(), i);
            due("count(0)", x.count(0), i + 2);
            due("count(8)", x.count(8), 0);
        }
        due("undo of the eleventh", x.undo(), NONE);
        due("count(0)", x.count(0), 2);
        x.add(0, 32, 1, 0);
        due("hop(0, 0)", x.hop(0, 0), NONE);
        x.undo();
        due("hop(0, 0)", x.hop(0, 0), 0);
        due("hop(0, 2)", x.hop(0, 2), 1);
        x.strides(266666);
        due("undo", x.undo(), 0);
        due("count(2)", x.count(2), 8);
        x.range(16, 30, 5, 5);
        due("count(0)", x.count(0), 6);
        due("undo", x.undo(), 0);
        due("count(0)", x.count(0), 2);
    }

    private static void shelves() {
        about = "promise 11";
        RouteStrides x = halved();
        x.add(0, 8, 9, 9);
        x.withdraw(1 << 31, 1);
        x.strides(266666);
        due("keep(2)", x.keep(2), NONE);
        due("keep(-1)", x.keep(-1), NONE);
        due("count(11)", x.count(11), 0);
        due("keep(0)", x.keep(0), 2);
        due("count(11)", x.count(11), 1);
        due("count(9)", x.count(9), 5);
        about = "promise 12";
        due("back(1)", x.back(1), -2);
        due("back(2)", x.back(2), NONE);
        due("back(-1)", x.back(-1), NONE);
        due("count(9)", x.count(9), 5);
        x.add(0, 8, 1, 1);
        x.add(0, 0, 2, 2);
        x.strides(2222222222222222L);
        due("keep(1)", x.keep(1), 3);
        due("count(11)", x.count(11), 3);
        feedText(x, "abc");
        due("back(0)", x.back(0), 2);
        due("count(8)", x.count(8), 0);
        due("count(9)", x.count(9), 0);
        due("count(10)", x.count(10), 3);
        due("undo()", x.undo(), NONE);
        due("count(2)", x.count(2), 6);
        due("hop(0, 0)", x.hop(0, 0), NONE);
        due("hop(1, 0)", x.hop(1, 0), 7);
        due("hop(2, 0)", x.hop(2, 0), 9);
        due("back(1)", x.back(1), 3);
        due("count(2)", x.count(2), 16);
        due("keep(0) anew", x.keep(0), 3);
        x.withdraw(0, 0);
        due("back(0)", x.back(0), 3);
    }

    private static void looking() {
        about = "promise 13";
        RouteStrides x = halved();
        int[] none = {-1, -1, 1, 0, -1};
        int[] inner = {1, 1, 2, 0, 0};
        int[] rest = {0, 0, 2, 1, -1};
        int[] upper = {0, 0, 1, 1, -1};
        for (int what = 0; what < 5; what++) {
            due("look(0, " + what + ")", x.look(0, what), none[what]);
            due("look(MAX, " + what + ")", x.look(Integer.MAX_VALUE, what), none[what]);
            due("look(MIN, " + what + ")", x.look(1 << 31, what), inner[what]);
            due("look(0x83FFFFFF, " + what + ")", x.look(0x83FFFFFF, what), inner[what]);
            due("look(0x84000000, " + what + ")", x.look(0x84000000, what), rest[what]);
            due("look(-1, " + what + ")", x.look(-1, what), upper[what]);
        }
        due("look(0, 5)", x.look(0, 5), NONE);
        due("look(0, -1)", x.look(0, -1), NONE);
        // Slots 0 to 7 of one hop, 8 of another, 9 to 15 of the first again: three are stored.
        RouteStrides y = new RouteStrides();
        y.add(0, 0, 1, 1);
        y.add(1 << 31, 4, 2, 2);
        due("look(-1, 3)", y.look(-1, 3), 2);
        due("look(0, 3)", y.look(0, 3), 0);
        due("look(1 << 31, 4)", y.look(1 << 31, 4), 0);
        RouteStrides z = new RouteStrides();
        z.strides(666662);
        z.add(-1, 32, 1, 1);
        due("look(-1, 2)", z.look(-1, 2), 6);
        due("look(-1, 3)", z.look(-1, 3), 1);
        due("look(-2, 2)", z.look(-2, 2), 6);
        due("look(-5, 2)", z.look(-5, 2), 5);
    }

    private static void paths() {
        about = "promise 14";
        RouteStrides x = new RouteStrides();
        x.add(0, 32, 1, 1);
        x.add(-1, 32, 1, 1);
        // Levels 1 to 7 have two nodes each: of 0.0.0.0 the odd numbers, of the last address the even.
        for (int i = 0; i < 8; i++) {
            due("path(0, " + i + ")", x.path(0, i), i == 0 ? 0 : 2 * i - 1);
            due("path(-1, " + i + ")", x.path(-1, i), 2 * i);
        }
        due("path(0, 8)", x.path(0, 8), -2);
        due("path(0, MAX)", x.path(0, Integer.MAX_VALUE), -2);
        due("path(0, -1)", x.path(0, -1), NONE);
        due("path(1 << 31, 1)", x.path(1 << 31, 1), -2);
        due("path(1 << 31, 0)", x.path(1 << 31, 0), 0);
    }

    private static void wouldBeTouched() {
        about = "promise 15";
        RouteStrides x = new RouteStrides();
        due("of 32 bits", x.would(0, 32, 1, 1), 8);
        due("of 4 bits", x.would(0, 4, 1, 1), 1);
        due("of 5 bits", x.would(0, 5, 1, 1), 2);
        x = halved();
        due("what it has", x.would(1 << 31, 1, 7, 3), 0);
        due("the hop of the rest", x.would(1 << 31, 6, 7, 3), 2);
        due("another hop", x.would(1 << 31, 6, 9, 9), 1);
        // The same way from a rule that says nothing new: no node is another one.
        due("an idle one", x.would(-1, 32, 7, 3), 0);
        due("count(8)", x.count(8), 2);
        due("count(0)", x.count(0), 2);
        due("count(9)", x.count(9), 2);
        due("no beginning", x.would(1, 31, 1, 1), NONE);
        due("length 33", x.would(0, 33, 1, 1), NONE);
        due("gate 100", x.would(0, 1, 100, 1), NONE);
        due("port 10", x.would(0, 1, 1, 10), NONE);
        RouteStrides f = full();
        due("rule 61", f.would(0, 1, 1, 1), -3);
        due("rule 61 of no port", f.would(0, 1, 1, 10), NONE);
        due("what one of 60 has", f.would(0, 30, 0, 0), 0);
        due("another way of one of 60", f.would(0, 30, 0, 1), 1);
        // Rule 0 alone has hop 0: the new way has that number, but the way itself is another.
        due("hop(0, 1)", f.hop(0, 1), 0);
    }

    private static void withins() {
        about = "promise 16";
        RouteStrides x = of("10.0.0.0/8=1 1;10.0.0.0/16=1 1;10.1.0.0/16=1 1;10.1.2.0/24=1 1;11.0.0.0/8=1 1;0.0.0.0/0=1 1");
        due("all", x.within(0, 0, NONE), 6);
        due("10/8", x.within(ip(10, 0, 0, 0), 8, NONE), 4);
        due("10/8, 0", x.within(ip(10, 0, 0, 0), 8, 0), 1);
        due("10/8, 3", x.within(ip(10, 0, 0, 0), 8, 3), 4);
        due("10/8, 4", x.within(ip(10, 0, 0, 0), 8, 4), -2);
        due("10/7", x.within(ip(10, 0, 0, 0), 7, NONE), 5);
        due("10/9", x.within(ip(10, 0, 0, 0), 9, NONE), 3);
        due("10/9, 0", x.within(ip(10, 0, 0, 0), 9, 0), 2);
        due("10.1.2.3/32", x.within(ip(10, 1, 2, 3), 32, NONE), 0);
        due("10.1.2.3/32, 0", x.within(ip(10, 1, 2, 3), 32, 0), -2);
        due("128/1", x.within(1 << 31, 1, NONE), 0);
        due("255.255.255.255/32", x.within(-1, 32, NONE), 0);
        due("k -2", x.within(0, 0, -2), NONE);
        due("no beginning", x.within(ip(10, 1, 0, 0), 8, 0), NONE);
        due("length 33", x.within(0, 33, 0), NONE);
        due("length -1", x.within(0, -1, 0), NONE);
    }

    private static void differing() {
        about = "promise 17";
        RouteStrides x = halved();
        due("not kept", x.differs(0, 0), NONE);
        x.keep(0);
        due("same", x.differs(0, 0), 0);
        due("same, first", x.differs(0, 1), -2);
        x.add(-1, 32, 7, 3);
        due("an idle rule", x.differs(0, 0), 0);
        x.add(-1, 32, 1, 1);
        due("one address", x.differs(0, 0), 1);
        due("one address, first", x.differs(0, 1), 4294967295L);
        x.withdraw(1 << 31, 1);
        due("none in place of a way", x.differs(0, 0), (1L << 31) - (1L << 26));
        due("first", x.differs(0, 1), 0x84000000L);
        x.add(0, 1, 7, 3);
        due("a way in place of none", x.differs(0, 0), (1L << 32) - (1L << 26));
        due("first", x.differs(0, 1), 0);
        due("what 2", x.differs(0, 2), NONE);
        due("what -1", x.differs(0, -1), NONE);
        due("shelf 1", x.differs(1, 0), NONE);
        due("shelf 2", x.differs(2, 0), NONE);
        due("shelf -1", x.differs(-1, 0), NONE);
        // The same ways under other numbers are no others.
        RouteStrides y = of("0.0.0.0/1=1 1;128.0.0.0/1=2 2");
        y.keep(1);
        told(y, "128.0.0.0/1=2 2;0.0.0.0/1=1 1");
        due("look(0, 0)", y.look(0, 0), 1);
        due("other numbers", y.differs(1, 0), 0);
    }

    private static void rules() {
        about = "promise 18";
        RouteStrides x = of("128.0.0.0/1=1 1;128.0.0.0/2=2 2;192.0.0.0/2=3 3;0.0.0.0/0=1 1;200.0.0.0/8=1 1");
        int[][] want = {{0, 0, 0, 0, -1}, {1 << 31, 1, 0, 1, 0}, {1 << 31, 2, 1, 0, 1}, {ip(192, 0, 0, 0), 2, 2, 0, 1},
            {ip(200, 0, 0, 0), 8, 0, 0, 3}};
        for (int k = 0; k < want.length; k++) {
            for (int what = 0; what < 5; what++) {
                due("rule(" + k + ", " + what + ")", x.rule(k, what), want[k][what]);
            }
            due("rule(" + k + ", 5)", x.rule(k, 5), -2);
            due("rule(" + k + ", -1)", x.rule(k, -1), -2);
        }
        int[] missing = {-1, 5, Integer.MAX_VALUE, Integer.MIN_VALUE};
        for (int k : missing) {
            due("rule(" + k + ", 0)", x.rule(k, 0), 0);
            for (int what = 1; what < 6; what++) {
                due("rule(" + k + ", " + what + ")", x.rule(k, what), -2);
            }
        }
        about = "promise 19";
        long[] served = {1L << 31, 0, 1L << 30, (1L << 30) - (1L << 24), 1L << 24};
        for (int k = 0; k < served.length; k++) {
            due("served(" + k + ")", x.served(k), served[k]);
        }
        due("served(5)", x.served(5), NONE);
        due("served(-1)", x.served(-1), NONE);
    }

    private static void hops() {
        about = "promise 20";
        RouteStrides x = of("128.0.0.0/1=98 1;128.0.0.0/2=2 9;192.0.0.0/2=3 0;200.0.0.0/8=98 1");
        int[][] want = {{98, 1, 2}, {2, 9, 1}, {3, 0, 1}};
        for (int h = 0; h < 3; h++) {
            for (int what = 0; what < 3; what++) {
                due("hop(" + h + ", " + what + ")", x.hop(h, what), want[h][what]);
            }
            due("hop(" + h + ", 3)", x.hop(h, 3), NONE);
            due("hop(" + h + ", -1)", x.hop(h, -1), NONE);
        }
        due("hop(3, 0)", x.hop(3, 0), NONE);
        due("hop(-1, 0)", x.hop(-1, 0), NONE);
        due("hop(60, 0)", x.hop(60, 0), NONE);
        due("hop(MAX, 0)", x.hop(Integer.MAX_VALUE, 0), NONE);
        about = "promise 21";
        due("reach(0)", x.reach(0), 1L << 24);
        due("reach(1)", x.reach(1), 1L << 30);
        due("reach(2)", x.reach(2), (1L << 30) - (1L << 24));
        due("reach(NONE)", x.reach(NONE), 1L << 31);
        due("reach(3)", x.reach(3), -2);
        due("reach(-2)", x.reach(-2), -2);
        due("reach(60)", x.reach(60), -2);
        x.withdraw(ip(200, 0, 0, 0), 8);
        due("reach of a hop of an idle rule", x.reach(0), 0);
        due("reach(NONE) of a new object", new RouteStrides().reach(NONE), 1L << 32);
        due("reach(0) of a new object", new RouteStrides().reach(0), -2);
    }

    private static void nodes() {
        about = "promise 22";
        RouteStrides x = halved();
        long[][] want = {{256, 513, 0, 0, 2, -1}, {0, 17, 1, 1L << 31, 2, 0}};
        for (int n = 0; n < 2; n++) {
            for (int what = 0; what < 6; what++) {
                due("node(" + n + ", " + what + ")", x.node(n, what), want[n][what]);
            }
            due("node(" + n + ", 6)", x.node(n, 6), -2);
            due("node(" + n + ", -1)", x.node(n, -1), -2);
        }
        int[] missing = {-1, 2, Integer.MAX_VALUE};
        for (int n : missing) {
            due("node(" + n + ", 0)", x.node(n, 0), 0);
            due("node(" + n + ", 1)", x.node(n, 1), 0);
            for (int what = 2; what < 7; what++) {
                due("node(" + n + ", " + what + ")", x.node(n, what), -2);
            }
        }
        about = "promise 23";
        due("stored(0, 0)", x.stored(0, 0), NONE);
        due("stored(0, 1)", x.stored(0, 1), 0);
        due("stored(0, 2)", x.stored(0, 2), -2);
        due("stored(0, -1)", x.stored(0, -1), -2);
        due("stored(1, 0)", x.stored(1, 0), 1);
        due("stored(1, 1)", x.stored(1, 1), 0);
        due("stored(2, 0)", x.stored(2, 0), -2);
        due("stored(-1, 0)", x.stored(-1, 0), -2);
        about = "promise 24";
        due("slot(0, 8, 0)", x.slot(0, 8, 0), 1);
        due("slot(0, 8, 1)", x.slot(0, 8, 1), -2);
        due("slot(0, 7, 0)", x.slot(0, 7, 0), -1);
        due("slot(0, 7, 1)", x.slot(0, 7, 1), NONE);
        due("slot(0, 15, 1)", x.slot(0, 15, 1), 0);
        due("slot(1, 3, 1)", x.slot(1, 3, 1), 1);
        due("slot(1, 4, 1)", x.slot(1, 4, 1), 0);
        due("slot(1, 16, 1)", x.slot(1, 16, 1), -3);
        due("slot(1, -1, 0)", x.slot(1, -1, 0), -3);
        due("slot(2, 0, 0)", x.slot(2, 0, 0), -3);
        due("slot(-1, 0, 0)", x.slot(-1, 0, 0), -3);
        due("slot(0, 0, 2)", x.slot(0, 0, 2), -3);
        due("slot(0, 0, -1)", x.slot(0, 0, -1), -3);
        wideNodes();
    }

    private static void wideNodes() {
        about = "promise 22";
        RouteStrides x = new RouteStrides();
        x.strides(666662);
        x.add(ip(252, 0, 0, 0), 6, 1, 1);
        due("node(0, 1) with bit 63", x.node(0, 1), 1 | 1L << 63);
        x.add(-1, 32, 2, 2);
        due("node(0, 0) with bit 63", x.node(0, 0), 1L << 63);
        due("node(0, 1)", x.node(0, 1), 1);
        due("node(5, 3)", x.node(5, 3), 0xFFFFFFFCL);
        due("node(5, 1)", x.node(5, 1), 1 | 8);
        due("node(5, 5)", x.node(5, 5), 4);
        due("slot(0, 63, 0)", x.slot(0, 63, 0), 1);
        due("slot(5, 3, 1)", x.slot(5, 3, 1), 1);
        due("slot(5, 4, 1)", x.slot(5, 4, 1), -3);
        // Nodes are as few as the ways need: two rules of one hop are as good as one.
        RouteStrides y = new RouteStrides();
        y.add(0, 5, 1, 1);
        due("count(3)", y.count(3), 2);
        y.add(1 << 27, 5, 1, 1);
        due("count(3)", y.count(3), 1);
        due("node(0, 1)", y.node(0, 1), 3);
        // A leaf behind one that leads on is held against the leaf ahead of that.
        RouteStrides z = new RouteStrides();
        z.add(1 << 28, 5, 1, 1);
        due("node(0, 0)", z.node(0, 0), 2);
        due("node(0, 1)", z.node(0, 1), 1);
        // Without a leaf ahead the first leaf has a run bit.
        z.add(0, 5, 1, 1);
        due("node(0, 0)", z.node(0, 0), 3);
        due("node(0, 1)", z.node(0, 1), 4);
    }

    private static void likeness() {
        about = "promise 25";
        RouteStrides x = of("16.0.0.0/5=1 1;32.0.0.0/5=1 1;48.0.0.0/5=2 2;64.0.0.0/9=1 1;80.0.0.0/9=1 1;96.0.0.0/9=2 2");
        // Node 0 leads to 1 .. 6 of level 1; 4 .. 6 lead to 7 .. 9 of level 2.
        due("count(3)", x.count(3), 10);
        due("alike(1, 2)", x.alike(1, 2), 1);
        due("alike(1, 3)", x.alike(1, 3), 0);
        due("alike(1, 4)", x.alike(1, 4), 0);
        due("alike(4, 5)", x.alike(4, 5), 1);
        due("alike(5, 4)", x.alike(5, 4), 1);
        due("alike(4, 6)", x.alike(4, 6), 0);
        due("alike(7, 8)", x.alike(7, 8), 1);
        due("alike(7, 9)", x.alike(7, 9), 0);
        due("alike(3, 3)", x.alike(3, 3), 1);
        due("alike(0, 0)", x.alike(0, 0), 1);
        due("alike(0, 1)", x.alike(0, 1), NONE);
        due("alike(1, 7)", x.alike(1, 7), NONE);
        due("alike(1, 10)", x.alike(1, 10), NONE);
        due("alike(-1, 1)", x.alike(-1, 1), NONE);
        due("alike(10, 10)", x.alike(10, 10), NONE);
        due("level(1, 3)", x.level(1, 3), 4);
        due("level(2, 3)", x.level(2, 3), 2);
        due("count(4)", x.count(4), 7);
    }

    private static void levels() {
        about = "promise 26";
        RouteStrides x = halved();
        int[][] want = {{4, 1, 2, 1}, {4, 1, 2, 1}, {4, 0, 0, 0}};
        for (int level = 0; level < want.length; level++) {
            for (int what = 0; what < 4; what++) {
                due("level(" + level + ", " + what + ")", x.level(level, what), want[level][what]);
            }
        }
        due("level(7, 0)", x.level(7, 0), 4);
        due("level(7, 1)", x.level(7, 1), 0);
        due("level(8, 0)", x.level(8, 0), NONE);
        due("level(-1, 0)", x.level(-1, 0), NONE);
        due("level(0, 4)", x.level(0, 4), NONE);
        due("level(0, -1)", x.level(0, -1), NONE);
        x.add(0, 32, 1, 1);
        due("level(7, 1)", x.level(7, 1), 1);
        due("level(7, 2)", x.level(7, 2), 2);
        due("level(1, 1)", x.level(1, 1), 2);
        due("level(1, 2)", x.level(1, 2), 3);
    }

    private static void spans() {
        about = "promise 27";
        RouteStrides x = halved();
        x.add(0xC0000000, 2, 7, 3);
        long[][] want = {{0, 0x7FFFFFFFL, -1}, {0x80000000L, 0x83FFFFFFL, 1}, {0x84000000L, 0xFFFFFFFFL, 0}};
        for (int k = 0; k < 3; k++) {
            for (int what = 0; what < 3; what++) {
                due("span(" + k + ", " + what + ")", x.span(k, what), want[k][what]);
            }
        }
        due("span(3, 0)", x.span(3, 0), -2);
        due("span(-1, 0)", x.span(-1, 0), -2);
        due("span(0, 3)", x.span(0, 3), -2);
        due("span(0, -1)", x.span(0, -1), -2);
        RouteStrides none = new RouteStrides();
        due("span(0, 1) of none", none.span(0, 1), 0xFFFFFFFFL);
        due("span(0, 2) of none", none.span(0, 2), NONE);
    }

    private static void covers() {
        about = "promise 28";
        RouteStrides x = new RouteStrides();
        due("how many", x.cover(1, 10, NONE, 0), 5);
        int[] lengths = {32, 31, 30, 31, 32};
        int[] values = {1, 2, 4, 8, 10};
        for (int k = 0; k < 5; k++) {
            due("length " + k, x.cover(1, 10, k, 0), lengths[k]);
            due("value " + k, x.cover(1, 10, k, 1), values[k]);
        }
        due("k 5", x.cover(1, 10, 5, 0), -2);
        due("k -2", x.cover(1, 10, -2, 0), -2);
        due("how many, what 1", x.cover(1, 10, NONE, 1), -2);
        due("what 2", x.cover(1, 10, 0, 2), -2);
        due("what -1", x.cover(1, 10, 0, -1), -2);
        due("all", x.cover(0, -1, NONE, 0), 1);
        due("all, length", x.cover(0, -1, 0, 0), 0);
        due("all but the ends", x.cover(1, -2, NONE, 0), 62);
        due("its 32nd value", x.cover(1, -2, 31, 1), 1L << 31);
        due("its last value", x.cover(1, -2, 61, 1), 0xFFFFFFFEL);
        due("the last address", x.cover(-1, -1, 0, 0), 32);
        due("the last address, value", x.cover(-1, -1, 0, 1), 0xFFFFFFFFL);
        due("above", x.cover(2, 1, NONE, 0), -2);
        due("above without sign", x.cover(-1, 1, 0, 0), -2);
        due("over the middle", x.cover(Integer.MAX_VALUE, 1 << 31, NONE, 0), 2);
    }

    private static void owns() {
        about = "promise 29";
        RouteStrides x = halved();
        // Hop 0: the upper half without its first 2^26: 100001, 10001, 1001, 101, 11.
        due("own(0, NONE, 0)", x.own(0, NONE, 0), 5);
        long[] values = {0x84000000L, 0x88000000L, 0x90000000L, 0xA0000000L, 0xC0000000L};
        for (int k = 0; k < 5; k++) {
            due("own(0, " + k + ", 0)", x.own(0, k, 0), 6 - k);
            due("own(0, " + k + ", 1)", x.own(0, k, 1), values[k]);
        }
        due("own(0, 5, 0)", x.own(0, 5, 0), -2);
        due("own(NONE, NONE, 0)", x.own(NONE, NONE, 0), 1);
        due("own(NONE, 0, 0)", x.own(NONE, 0, 0), 1);
        due("own(1, 0, 0)", x.own(1, 0, 0), 6);
        due("own(1, 0, 1)", x.own(1, 0, 1), 1L << 31);
        due("own(1, 0, 2)", x.own(1, 0, 2), -2);
        due("own(1, NONE, 1)", x.own(1, NONE, 1), -2);
        due("own(1, -2, 0)", x.own(1, -2, 0), -2);
        due("own(2, NONE, 0)", x.own(2, NONE, 0), -2);
        due("own(-2, NONE, 0)", x.own(-2, NONE, 0), -2);
        x.add(1 << 31, 6, 7, 3);
        x.add(0, 1, 9, 9);
        due("own(NONE, NONE, 0) of nothing", x.own(NONE, NONE, 0), 0);
        due("own(NONE, 0, 0) of nothing", x.own(NONE, 0, 0), -2);
        due("own(0, NONE, 0)", x.own(0, NONE, 0), 1);
    }

    private static void bests() {
        about = "promise 30";
        RouteStrides x = new RouteStrides();
        for (int m = 6; m <= 16; m++) {
            due("best(" + m + ", 0)", x.best(m, 0), 4);
            due("best(" + m + ", 1)", x.best(m, 1), 266666);
        }
        due("best(5, 0)", x.best(5, 0), NONE);
        due("best(17, 0)", x.best(17, 0), NONE);
        due("best(6, 2)", x.best(6, 2), NONE);
        due("best(6, -1)", x.best(6, -1), NONE);
        x.add(-1, 32, 1, 1);
        // A node at each level: the sum of 2^stride. Sixteen twos have 64, six strides 5 5 5 5 6 6 have 256.
        due("best(16, 0)", x.best(16, 0), 64);
        due("best(16, 1)", x.best(16, 1), 2222222222222222L);
        due("best(6, 0)", x.best(6, 0), 256);
        due("best(6, 1)", x.best(6, 1), 555566);
        // Eight fours have 128, and 3 3 4 .. has as many of one more.
        due("best(8, 0)", x.best(8, 0), 128);
        due("best(8, 1)", x.best(8, 1), 44444444);
        // Fifteen: one 4 in place of two 2s is 16 for 8, two 3s for 2 2 2 are 16 for 12.
        due("best(15, 0)", x.best(15, 0), 68);
        due("best(15, 1)", x.best(15, 1), 222222222222233L);
        x.withdraw(-1, 32);
        // Parted at lengths 0, 1, 2 alone: one node of 3 bits is as good as any other.
        x.add(0xE0000000, 3, 1, 1);
        due("best(16, 0)", x.best(16, 0), 8);
        due("best(16, 1)", x.best(16, 1), 356666);
    }

    private static void fewests() {
        about = "promise 31";
        RouteStrides x = new RouteStrides();
        due("of nothing", x.fewest(NONE, 0), 0);
        due("of nothing, 0", x.fewest(0, 0), -2);
        x = halved();
        long[][] want = {{1, 1L << 31, 0}, {6, 1L << 31, 1}};
        due("how many", x.fewest(NONE, 0), 2);
        for (int k = 0; k < 2; k++) {
            for (int what = 0; what < 3; what++) {
                due("fewest(" + k + ", " + what + ")", x.fewest(k, what), want[k][what]);
            }
        }
        due("fewest(2, 0)", x.fewest(2, 0), -2);
        due("fewest(-2, 0)", x.fewest(-2, 0), -2);
        due("fewest(NONE, 1)", x.fewest(NONE, 1), -2);
        due("fewest(0, 3)", x.fewest(0, 3), -2);
        due("fewest(0, -1)", x.fewest(0, -1), -2);
        // Both halves of hops of their own: the lesser number stands at length 0.
        x = of("0.0.0.0/1=1 1;128.0.0.0/1=2 2");
        due("two halves", x.fewest(NONE, 0), 2);
        due("fewest(0, 0)", x.fewest(0, 0), 0);
        due("fewest(0, 2)", x.fewest(0, 2), 0);
        due("fewest(1, 1)", x.fewest(1, 1), 1L << 31);
        due("fewest(1, 2)", x.fewest(1, 2), 1);
        // All but an eighth: NONE stands in no set of what is above it but its own.
        x = of("0.0.0.0/1=1 1;128.0.0.0/2=1 1;192.0.0.0/3=1 1");
        due("all but an eighth", x.fewest(NONE, 0), 2);
        due("fewest(0, 2)", x.fewest(0, 2), 0);
        due("fewest(1, 0)", x.fewest(1, 0), 3);
        due("fewest(1, 1)", x.fewest(1, 1), 0xE0000000L);
        due("fewest(1, 2)", x.fewest(1, 2), NONE);
    }

    private static void means() {
        about = "promise 32";
        RouteStrides x = new RouteStrides();
        due("steps()", x.steps(), Double.doubleToLongBits(1.0));
        x = halved();
        due("steps()", x.steps(), Double.doubleToLongBits(1.0625));
        x = new RouteStrides();
        x.add(-1, 32, 1, 1);
        long all = 0;
        for (int bits = 0; bits < 32; bits += 4) {
            all += 1L << 32 - bits;
        }
        due("steps()", x.steps(), Double.doubleToLongBits((double) all / 4294967296.0));
        // Of 64 beginnings of 6 bits 60 are parted, of 16 of 4 bits 15, of 4 of 2 bits all.
        RouteStrides y = new RouteStrides();
        y.strides(2222222222222222L);
        for (int i = 0; i < 60; i++) {
            y.add(i << 26 | 1 << 25, 7, i % 2, 0);
        }
        due("steps()", y.steps(), Double.doubleToLongBits(1 + 1 + 15 / 16.0 + 60 / 64.0));
    }

    private static void counts() {
        about = "promise 33";
        RouteStrides x = halved();
        x.add(1 << 31, 2, 7, 5);
        x.add(0xA0000000, 3, 7, 5);
        x.keep(1);
        feedText(x, "1.0.0");
        // Rule 128/2 has 7 5 beside the inner one; 160/3 says it again, and serves what it says.
        int[] want = {4, 3, 8, 2, 2, 5, 4, 0, 0, 4, 5, 2, 2};
        for (int i = 0; i < want.length; i++) {
            due("count(" + i + ")", x.count(i), want[i]);
        }
        due("count(13)", x.count(13), NONE);
        due("count(-1)", x.count(-1), NONE);
        x.add(0x90000000, 4, 1, 1);
        x.add(0x88000000, 5, 1, 1);
        x.add(0x84000000, 6, 1, 1);
        due("count(7)", x.count(7), 1);
        touchedOnes();
    }

    private static void touchedOnes() {
        RouteStrides x = halved();
        due("of an add", x.count(8), 2);
        x.add(-1, 32, 7, 3);
        due("of an idle add", x.count(8), 0);
        x.withdraw(1 << 31, 6);
        due("of a withdrawing", x.count(8), 2);
        x.add(0, 33, 1, 1);
        x.withdraw(0, 20);
        x.would(0, 32, 1, 1);
        x.keep(0);
        due("behind what did nothing", x.count(8), 2);
        x.undo();
        due("behind undo", x.count(8), 0);
        x.range(1, 2, 1, 1);
        due("of a range", x.count(8), 8);
        x.back(0);
        due("behind back", x.count(8), 0);
        x.gather();
        due("of gather", x.count(8), 0);
        // Node 0 of 2 bits: slots 0, 1 none, 2, 3 of a hop; of 6 bits: from slot 32 on.
        x.strides(266666);
        due("of strides", x.count(8), 1);
        x.strides(266666);
        due("of strides that were so", x.count(8), 1);
        RouteStrides y = new RouteStrides();
        y.strides(266666);
        due("of strides without rules", y.count(8), 0);
        // Another way that takes the number of the old one is another way.
        y.add(0, 0, 1, 1);
        y.add(0, 0, 2, 2);
        due("look(0, 0)", y.look(0, 0), 0);
        due("of another way of one number", y.count(8), 1);
        // The same way under another number is the same.
        RouteStrides z = of("0.0.0.0/0=1 1;0.0.0.0/1=2 2;128.0.0.0/1=2 2");
        due("gather", z.gather(), 1);
        due("look(0, 0)", z.look(0, 0), 1);
        due("of gather", z.count(8), 0);
        told(z, "1.1.1.1/32=1 1");
        due("behind a text", z.count(8), 0);
    }
}
