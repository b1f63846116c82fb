/** Promises 1 to 8: the text, the faults, towns, roads, stops, ways. */
public final class LandTest {
    private static final String LAND =
        "town 5;town 40;town 12;town 30;road 0 1 10;road 1 2 7;road 0 2 20;road 2 3 25;road 1 0 4;"
        + "stop 0 3;stop 1 2;stop 2 0;stop 3 9;";

    private static String times(String part, int n) {
        return part.repeat(n);
    }

    private static void newObject() {
        NoonWalker x = new NoonWalker();
        for (int what = 0; what <= 5; what++) Due.is("new: count(" + what + ")", x.count(what), 0);
        Due.is("new: count(6)", x.count(6), -1);
        Due.is("new: count(-1)", x.count(-1), -1);
        Due.is("new: trace()", x.trace(), 0);
        Due.is("new: town(0, 0)", x.town(0, 0), -1);
        Due.is("new: road(0, 0)", x.road(0, 0), -1);
        Due.is("new: stop(0, 0)", x.stop(0, 0), -1);
        Due.is("new: far(0, 0)", x.far(0, 0), -1);
        Due.is("new: where(0, 0)", x.where(0, 0), -9);
        Due.is("new: where(0, 1)", x.where(0, 1), -9);
        Due.is("new: where(0, 2)", x.where(0, 2), 0);
        Due.is("new: where(0, 3)", x.where(0, 3), 0);
        Due.is("new: back(0)", x.back(0), -2);
        Due.is("new: back(1)", x.back(1), -2);
        Due.is("new: clear()", x.clear(), 0);
        Due.is("new: forget()", x.forget(), 0);
        Due.is("new: land()", x.land(), 0);
        Due.is("constants", NoonWalker.BAD * 10000 + NoonWalker.STATE * 1000 + NoonWalker.FULL * 100 + NoonWalker.NONE, -12309);
        Due.is("NO", NoonWalker.NO, -1000000);
    }

    private static void typing() {
        NoonWalker x = new NoonWalker();
        Due.is("type(1, 0)", x.type(1, 0), -1);
        Due.is("type(1, 9)", x.type(1, 9), -1);
        Due.is("type(1, -1)", x.type(1, -1), -1);
        Due.is("type(1, MIN)", x.type(1, Integer.MIN_VALUE), -1);
        Due.is("type(1, MAX)", x.type(1, Integer.MAX_VALUE), -1);
        Due.is("count(5)", x.count(5), 0);
        // only the lowest bytes come, the highest of them first
        Due.is("type('town', 4)", x.type(0x5A5A5A5A746F776EL, 4), 4);
        Due.is("type(' 9;', 3)", x.type(0x78787878_7820393BL, 3), 7);
        Due.is("land()", x.land(), 1);
        Due.is("town(0, 0)", x.town(0, 0), 9);
        Due.is("count(5) behind land()", x.count(5), 0);
        for (int i = 1; i <= 37; i++) Due.is("type of 8 blanks", x.type(0x2020202020202020L, 8), 8 * i);
        Due.is("type beyond 300", x.type(0x2020202020202020L, 8), -3);
        Due.is("type beyond 300, BAD first", x.type(0, 9), -1);
        Due.is("type beyond 300 by one", x.type(0, 5), -3);
        Due.is("type to 300", x.type(0x20202020L, 4), 300);
        Due.is("type beyond 300", x.type(0x20, 1), -3);
        Due.is("count(5) when full", x.count(5), 300);
        Due.is("land() of 300 blanks", x.land(), 0);
        Due.is("towns are gone", x.count(0), 0);
        Due.is("clear() behind land()", x.clear(), 0);
        x.type(-1L, 8);
        Due.is("clear()", x.clear(), 8);
        Due.is("count(5) behind clear()", x.count(5), 0);
        x.type(-1L, 1);
        Due.is("land() of a byte 255", x.land(), -10);
        x.clear();
        x.type(0x746F776E35003B00L, 8);
        Due.is("land() with a byte 0", x.land(), -15);
    }

    private static void fullText() {
        NoonWalker x = new NoonWalker();
        String text = "town 1;" + times(" ", 285) + "town 99;";
        Due.is("type 300", Due.type(x, text), 300);
        Due.is("land() of 300", x.land(), 2);
        Due.is("town(1, 0)", x.town(1, 0), 99);
        Due.is("type 300 without an end", Due.type(x, times(" ", 296) + "town"), 300);
        Due.is("land() without an end", x.land(), -310);
        x.clear();
        Due.type(x, times(" ", 299) + "!");
        Due.is("land() with a fault at the last byte", x.land(), -309);
        x.clear();
        Due.type(x, "town " + times("1", 295));
        Due.is("land() of a long number", x.land(), -15);
        x.clear();
        Due.type(x, times("t", 300));
        Due.is("land() of a long word", x.land(), -10);
    }

    private static void limits() {
        String all = times("town 1;", 6) + times("road 0 1 1;", 10) + times("stop 0 0;stop 1 0;", 5);
        NoonWalker x = Due.told(all);
        Due.is("towns", x.count(0), 6);
        Due.is("roads", x.count(1), 10);
        Due.is("stops", x.count(2), 10);
        Due.is("town(5, 0)", x.town(5, 0), 1);
        Due.is("town(6, 0)", x.town(6, 0), -1);
        Due.is("road(9, 2)", x.road(9, 2), 1);
        Due.is("road(10, 2)", x.road(10, 2), -1);
        Due.is("stop(9, 2)", x.stop(9, 2), 9);
        Due.is("stop(10, 2)", x.stop(10, 2), -1);
        Due.fault(all + "town 1;", all.length());
        Due.fault(all + "road 0 1 1;", all.length());
        Due.fault(all + " stop 0 0;", all.length() + 1);
        Due.fault(times("town 1;", 6) + "town", 42);
        Due.fault(times("town 1;", 6) + "   town x", 45);
    }

    private static void faults() {
        String two = "town 1;town 1;";
        Due.fault(";", 0);
        Due.fault("town 1;;", 7);
        Due.fault("1", 0);
        Due.fault("town", 4);
        Due.fault("town  ", 6);
        Due.fault("town 1", 6);
        Due.fault("town 1 ", 7);
        Due.fault("town;", 4);
        Due.fault("town town", 5);
        Due.fault("town road 0 1 1;", 5);
        Due.fault("town stop", 5);
        Due.fault("town 1 2;", 7);
        Due.fault("town 1 town", 7);
        Due.fault("town 00;", 5);
        Due.fault("town 07;", 5);
        Due.fault("town 100;", 5);
        Due.fault("town 4294967297;", 5);
        Due.fault("town 18446744073709551617;", 5);
        Due.fault("town -1;", 5);
        Due.fault("Town 1;", 0);
        Due.fault("tow 1;", 0);
        Due.fault("towns 1;", 0);
        Due.fault("gown 1;", 0);
        Due.fault("toad 0 1 1;", 0);
        Due.fault("stow 0 1;", 0);
        Due.fault("stopz 0 1;", 0);
        Due.fault("zstop 0 1;", 0);
        Due.fault("astop 0 1;", 0);
        Due.fault("stopa 0 1;", 0);
        Due.fault("townroad", 0);
        Due.fault("town 1;x", 7);
        Due.fault("town\t1;", 4);
        Due.fault("town 1\n;", 6);
        Due.fault("town 1:", 6);
        Due.fault("town `", 5);
        Due.fault("town {", 5);
        Due.fault("town /", 5);
        Due.fault("to wn 1;", 0);
        Due.fault("town 1;to!", 7);
        Due.fault("town 1x;", 6);
        Due.fault(two + "road", 18);
        Due.fault(two + "road 0", 20);
        Due.fault(two + "road 0 1", 22);
        Due.fault(two + "road 0 1 1", 24);
        Due.fault(two + "road ;", 19);
        Due.fault(two + "road 2 1 1;", 19);
        Due.fault(two + "road 0 0 1;", 21);
        Due.fault(two + "road 0 2 1;", 21);
        Due.fault(two + "road 0 1 0;", 23);
        Due.fault(two + "road 0 1 31;", 23);
        Due.fault(two + "road 0 1 01;", 23);
        Due.fault(two + "road 0 1;", 22);
        Due.fault(two + "road 01 1;", 19);
        Due.fault(two + "road 0 1 1 1;", 25);
        Due.fault("road 0 1 1;", 5);
        Due.fault("town 1;road 0 1 1;town 1;", 14);
        Due.fault("stop 0 0;town 1;", 5);
        Due.fault("town 1;stop 1 0;", 12);
        Due.fault("town 1;stop", 11);
        Due.fault("town 1;stop 0", 13);
        Due.fault("town 1;stop 0 1", 15);
        Due.fault("town 1;stop 0 10;", 14);
        Due.fault("town 1;stop 0;", 13);
        Due.fault("town 1;stop 0 1;stop 0 1;", 21);
        Due.fault(two + "stop 0 0;stop 1 0;road 0 1 1;", 28);
        Due.fault(two + "road 0 1 1;stop 0 0;stop 0 0;", 39);
        Due.fault("town 1;" + two + "road 0 1 1;stop 0 0;stop 1 0;stop 2 0;", 55);
        // the first fault counts, whatever comes behind
        Due.fault("town 100;!", 5);
        Due.fault("town x!", 5);
    }

    private static void blanks() {
        NoonWalker x = Due.told("   town1;town 2 ;town  3;  road0 1 2;road 1 2  30 ; stop0 9;  stop 1 0  ;   ");
        Due.is("town(2, 0)", x.town(2, 0), 3);
        Due.is("road(0, 2)", x.road(0, 2), 2);
        Due.is("road(1, 2)", x.road(1, 2), 30);
        Due.is("stop(1, 0)", x.stop(1, 0), 1);
        Due.is("land() of nothing", x.land(), 0);
        Due.is("land() of items", Due.tell(x, "town 0;road;".substring(0, 7)), 1);
        Due.is("towns between stops", Due.tell(x, "town 1;stop 0 0;town 2;road 1 0 3;stop 1 1;road 0 1 1;stop 0 2;"), 7);
        Due.is("the road told first", x.stop(2, 2), 7);
        Due.is("stops of 0", x.town(0, 2), 2);
        Due.is("stops of 1", x.town(1, 2), 1);
    }

    private static void parts() {
        NoonWalker x = Due.told(LAND);
        int[][] towns = {{5, 3, 1}, {40, 3, 1}, {12, 3, 1}, {30, 1, 1}};
        int[][] roads = {{0, 1, 10}, {1, 2, 7}, {0, 2, 20}, {2, 3, 25}, {1, 0, 4}};
        int[][] stops = {{0, 3, 0, 3}, {1, 2, 13, 15}, {2, 0, 22, 22}, {3, 9, 47, 56}};
        for (int t = 0; t < 4; t++) {
            for (int what = 0; what < 3; what++) Due.is("town(" + t + ", " + what + ")", x.town(t, what), towns[t][what]);
        }
        for (int r = 0; r < 5; r++) {
            for (int what = 0; what < 3; what++) Due.is("road(" + r + ", " + what + ")", x.road(r, what), roads[r][what]);
        }
        for (int k = 0; k < 4; k++) {
            for (int what = 0; what < 4; what++) Due.is("stop(" + k + ", " + what + ")", x.stop(k, what), stops[k][what]);
        }
        int[] bad = {-1, Integer.MIN_VALUE, 6, 10, 99, Integer.MAX_VALUE};
        for (int n : bad) {
            Due.is("town(" + n + ", 0)", x.town(n, 0), -1);
            Due.is("town(0, " + n + ")", x.town(0, n), -1);
            Due.is("road(" + n + ", 0)", x.road(n, 0), -1);
            Due.is("road(0, " + n + ")", x.road(0, n), -1);
            Due.is("stop(" + n + ", 0)", x.stop(n, 0), -1);
            Due.is("stop(0, " + n + ")", x.stop(0, n), -1);
            Due.is("far(" + n + ", 0)", x.far(n, 0), -1);
            Due.is("far(0, " + n + ")", x.far(0, n), -1);
        }
        Due.is("town(0, 3)", x.town(0, 3), -1);
        Due.is("town(4, 0)", x.town(4, 0), -1);
        Due.is("road(0, 3)", x.road(0, 3), -1);
        Due.is("road(5, 0)", x.road(5, 0), -1);
        Due.is("stop(0, 4)", x.stop(0, 4), -1);
        Due.is("stop(4, 0)", x.stop(4, 0), -1);
        Due.is("far(4, 0)", x.far(4, 0), -1);
        Due.is("far(0, 4)", x.far(0, 4), -1);
    }

    private static void ways() {
        NoonWalker x = Due.told(LAND);
        int[][] far = {{0, 4, 11, 36}, {4, 0, 7, 32}, {11, 7, 0, 25}, {36, 32, 25, 0}};
        for (int a = 0; a < 4; a++) {
            for (int b = 0; b < 4; b++) Due.is("far(" + a + ", " + b + ")", x.far(a, b), far[a][b]);
        }
        x = Due.told("town 1;town 1;town 1;road 0 1 30;");
        Due.is("far(0, 2)", x.far(0, 2), -9);
        Due.is("far(2, 1)", x.far(2, 1), -9);
        Due.is("far(2, 2)", x.far(2, 2), 0);
        x = Due.told(times("town 1;", 6) + "road 0 5 30;road 5 1 30;road 1 4 30;road 4 2 30;road 2 3 30;");
        Due.is("the farthest", x.far(0, 3), 150);
        Due.is("the farthest", x.far(3, 0), 150);
    }

    private static void readAnew() {
        NoonWalker x = Due.told(LAND);
        x.go(77);
        x.saw(0, 0, 0);
        x.keep(0);
        x.keep(1);
        x.rate(3, 1);
        Due.is("land() anew", Due.tell(x, "town 9;town 8;"), 2);
        Due.is("towns anew", x.count(0), 2);
        Due.is("roads anew", x.count(1), 0);
        Due.is("stops anew", x.count(2), 0);
        Due.is("seen anew", x.count(3), 0);
        Due.is("hour anew", x.count(4), 0);
        Due.is("back(0) anew", x.back(0), -2);
        Due.is("back(1) anew", x.back(1), -2);
        Due.is("trace() goes on", x.trace(), 1011);
        Due.is("far(0, 1) anew", x.far(0, 1), -9);
        Due.is("town(0, 1) anew", x.town(0, 1), 0);
        Due.is("stood(0, 0) anew", x.stood(0, 0), 2);
        // the land told before the last one must not shine through
        Due.is("land() of the first again", Due.tell(x, LAND), 13);
        Due.is("far(0, 3) again", x.far(0, 3), 36);
        Due.is("land() of nothing", x.land(), 0);
        Due.is("no towns", x.town(0, 0), -1);
    }

    public static void main(String[] args) {
        newObject();
        typing();
        fullText();
        limits();
        faults();
        blanks();
        parts();
        ways();
        readAnew();
        Due.finish("LandTest");
    }
}
