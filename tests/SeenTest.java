/** Promises 19 to 23: what was seen, what is so, where he can have stood, whether there must be two. */
public final class SeenTest {
    private static final int[] WRONG = {-1, Integer.MIN_VALUE, Integer.MAX_VALUE};

    private static void saw() {
        NoonWalker x = Due.told("town 1;town 2;road 0 1 3;stop 0 0;");
        for (int n : WRONG) {
            Due.is("saw(" + n + ", 0, 0)", x.saw(n, 0, 0), -1);
            Due.is("saw(0, " + n + ", 0)", x.saw(0, n, 0), -1);
            Due.is("saw(0, 0, " + n + ")", x.saw(0, 0, n), -1);
        }
        Due.is("saw(2, 0, 0)", x.saw(2, 0, 0), -1);
        Due.is("saw(0, 24, 0)", x.saw(0, 24, 0), -1);
        Due.is("saw(0, 0, 1000)", x.saw(0, 0, 1000), -1);
        Due.is("count(3)", x.count(3), 0);
        Due.is("saw(1, 23, 999)", x.saw(1, 23, 999), 1);
        for (int i = 2; i <= 8; i++) Due.is("saw(0, 12, 0)", x.saw(0, 12, 0), i);
        Due.is("saw, FULL", x.saw(0, 12, 0), -3);
        Due.is("saw, BAD ahead of FULL", x.saw(0, 24, 0), -1);
        Due.is("count(3), full", x.count(3), 8);
        Due.is("so()", x.so(), 0xFE);
        Due.is("forget()", x.forget(), 8);
        Due.is("forget() again", x.forget(), 0);
        Due.is("so() of nothing", x.so(), 0);
        Due.is("two() of nothing", x.two(), 0);
        Due.is("saw(1, 15, 0)", x.saw(1, 15, 0), 1);
        Due.is("so()", x.so(), 1);
        Due.is("the NOON", x.saw(1, 14, 0), 2);
        Due.is("so()", x.so(), 1);
    }

    private static void notSo() {
        NoonWalker x = Due.told("town 1;town 2;town 3;road 0 1 3;");
        x.saw(0, 12, 0);
        Due.is("so() when he is nowhere", x.so(), 0);
        Due.is("two() when he is nowhere", x.two(), 0);
        Due.is("stood(0, 1) when he is nowhere", x.stood(0, 1), 0);
        x.saw(2, 12, 0);
        Due.is("stood(0, 0), no way", x.stood(0, 0), 0);
        Due.is("two(), no way", x.two(), 1);
    }

    private static void two() {
        NoonWalker x = Due.told("town 1;town 2;road 0 1 3;stop 0 0;");
        x.saw(0, 3, 5);
        Due.is("two(), by the first", x.two(), 1);
        x.saw(0, 12, 6);
        Due.is("two(), still", x.two(), 1);
        x.forget();
        Due.is("two() behind forget()", x.two(), 0);
        for (int hour = 0; hour < 7; hour++) x.saw(1, 12 + hour % 4, hour);
        Due.is("two(), each in an hour of its own", x.two(), 0);
        x.saw(1, 15, 7);
        Due.is("two(), full", x.two(), 0);
        x.forget();
        x.saw(0, 13, 999);
        x.saw(1, 14, 999);
        Due.is("two(), both at one place", x.two(), 0);
        x.saw(1, 13, 999);
        Due.is("two(), in the last hour", x.two(), 1);
    }

    private static void stood() {
        NoonWalker x = Due.told("town 1;town 2;town 3;road 1 0 4;road 1 2 1;road 2 0 9;stop 0 0;");
        // nothing seen: every place, 3 towns and 3 + 0 + 8 miles
        Due.is("stood(5, 0)", x.stood(5, 0), 14);
        Due.is("stood(5, 1)", x.stood(5, 1), 0);
        x.saw(1, 14, 5);
        // 2 miles from 1: on road 0 mile 2, on road 2 mile 1
        Due.is("stood(5, 0)", x.stood(5, 0), 2);
        Due.is("stood(5, 1)", x.stood(5, 1), 102);
        Due.is("stood(6, 0), another hour", x.stood(6, 0), 14);
        x.saw(2, 13, 5);
        Due.is("stood(5, 0)", x.stood(5, 0), 1);
        Due.is("stood(5, 1)", x.stood(5, 1), 301);
        Due.is("two()", x.two(), 0);
        x.saw(0, 12, 7);
        Due.is("stood(7, 1)", x.stood(7, 1), 0);
        x.saw(0, 13, 7);
        Due.is("stood(7, 0)", x.stood(7, 0), 0);
        Due.is("stood(7, 1)", x.stood(7, 1), -9);
        Due.is("two()", x.two(), 1);
        for (int n : WRONG) {
            Due.is("stood(" + n + ", 0)", x.stood(n, 0), -1);
            Due.is("stood(0, " + n + ")", x.stood(0, n), -1);
        }
        Due.is("stood(0, 2)", x.stood(0, 2), -1);
        Due.is("stood(1000, 0)", x.stood(1000, 0), -1);
        Due.is("stood(999, 0)", x.stood(999, 0), 14);
    }

    private static void farPlaces() {
        NoonWalker x = Due.told("town 1;".repeat(6) + "road 0 1 30;".repeat(10));
        Due.is("all places", x.stood(0, 0), 6 + 290);
        x.saw(1, 13, 0);
        Due.is("1 or 25 miles from 1", x.stood(0, 0), 20);
        Due.is("the first of these", x.stood(0, 1), 105);
        x.saw(2, 17, 0);
        Due.is("no way to 2", x.stood(0, 1), -9);
        x = Due.told("town 1;town 1;road 0 1 1;road 0 1 30;");
        x.saw(0, 13, 3);
        Due.is("towns ahead of roads", x.stood(3, 1), 1);
        x.forget();
        x.saw(0, 14, 3);
        Due.is("the second road", x.stood(3, 1), 202);
        Due.is("both of its ends", x.stood(3, 0), 2);
    }

    public static void main(String[] args) {
        saw();
        notSo();
        two();
        stood();
        farPlaces();
        Due.finish("SeenTest");
    }
}
