/** Tables to ask, and answers held against those that are due. */
abstract class Tables {
    static final int NONE = RouteStrides.NONE;
    static final int HIGH = 1 << 31;

    static int wrong;
    static int asked;
    /** What the answers are about that are asked for now. */
    static String about = "";

    static void due(String call, long got, long want) {
        asked++;
        if (got != want) {
            wrong++;
            System.out.println(about + ": " + call + " answered " + got + ", due is " + want);
        }
    }

    static void finish(String name) {
        System.out.println(name + ": " + asked + " answers, " + wrong + " are not as due");
        if (wrong != 0 || asked == 0) {
            System.exit(1);
        }
    }

    static int ip(int a, int b, int c, int d) {
        return a << 24 | b << 16 | c << 8 | d;
    }

    static void feedText(RouteStrides x, String text) {
        for (int at = 0; at < text.length(); at += 20) {
            int[] five = new int[5];
            for (int i = 0; i < 20 && at + i < text.length(); i++) {
                five[i / 4] |= text.charAt(at + i) << 24 - 8 * (i % 4);
            }
            x.feed(five[0], five[1], five[2], five[3], five[4]);
        }
        x.end(text.length());
    }

    static int told(RouteStrides x, String text) {
        feedText(x, text);
        return x.tell();
    }

    static RouteStrides of(String text) {
        RouteStrides x = new RouteStrides();
        due("tell() of " + text + " is no fault", told(x, text) >= 0 ? 1 : 0, 1);
        return x;
    }

    /** The upper half to 7 3 (hop 0), of it the beginning 100000 to 7 4 (hop 1). */
    static RouteStrides halved() {
        RouteStrides x = new RouteStrides();
        x.add(HIGH, 1, 7, 3);
        x.add(HIGH, 6, 7, 4);
        return x;
    }

    /** As many rules as there may be, each of its own way. */
    static RouteStrides full() {
        RouteStrides x = new RouteStrides();
        for (int i = 0; i < 60; i++) {
            due("add of rule " + i, x.add(i * 4, 30, i, 0), i);
        }
        return x;
    }
}
