/** Promises 9 to 13: where he is, clocks, light, pace. */
public final class WalkTest {
    private static final int[] WRONG_HOURS = {-1, 1000, 1001, Integer.MIN_VALUE, Integer.MAX_VALUE};
    private static final int[] WRONG_TOWNS = {-1, 3, 6, Integer.MIN_VALUE, Integer.MAX_VALUE};

    /** Road 1 leads from 2 to 1, so he goes against its miles; the last town is on no way. */
    private static NoonWalker walk() {
        return Due.told("town 1;town 2;town 3;road 0 1 5;road 2 1 20;stop 0 2;stop 1 0;stop 2 3;");
    }

    private static void places() {
        NoonWalker x = walk();
        int[][] due = {
            {0, 0, -9, 0, 1}, {2, 0, -9, 0, 1}, {3, -9, 0, 1, 1}, {6, -9, 0, 4, 1}, {7, 1, -9, 0, 2},
            {8, -9, 1, 1, 2}, {26, -9, 1, 19, 2}, {27, 2, -9, 0, 3}, {30, 2, -9, 0, 3}, {31, 2, -9, 0, 3}, {999, 2, -9, 0, 3}};
        for (int[] row : due) {
            for (int what = 0; what < 4; what++) Due.is("where(" + row[0] + ", " + what + ")", x.where(row[0], what), row[what + 1]);
        }
        for (int hour : WRONG_HOURS) Due.is("where(" + hour + ", 0)", x.where(hour, 0), -1);
        Due.is("where(0, 4)", x.where(0, 4), -1);
        Due.is("where(0, -1)", x.where(0, -1), -1);
        Due.is("where(0, MAX)", x.where(0, Integer.MAX_VALUE), -1);
    }

    private static void distances() {
        NoonWalker x = walk();
        int[][] due = {{0, 0, 5, 25}, {3, 1, 4, 24}, {7, 5, 0, 20}, {8, 6, 1, 19}, {26, 24, 19, 1}, {27, 25, 20, 0}, {999, 25, 20, 0}};
        for (int[] row : due) {
            for (int t = 0; t < 3; t++) {
                Due.is("off(" + t + ", " + row[0] + ")", x.off(t, row[0]), row[t + 1]);
                Due.is("clock(" + t + ", " + row[0] + ")", x.clock(t, row[0]), (12 + row[t + 1]) % 24);
            }
        }
        for (int hour : WRONG_HOURS) {
            Due.is("off(0, " + hour + ")", x.off(0, hour), -1);
            Due.is("clock(0, " + hour + ")", x.clock(0, hour), -1);
            Due.is("light(0, " + hour + ")", x.light(0, hour), -1);
            Due.is("pace(0, " + hour + ")", x.pace(0, hour), -1000000);
        }
        for (int t : WRONG_TOWNS) {
            Due.is("off(" + t + ", 0)", x.off(t, 0), -1);
            Due.is("clock(" + t + ", 0)", x.clock(t, 0), -1);
            Due.is("light(" + t + ", 0)", x.light(t, 0), -1);
            Due.is("pace(" + t + ", 0)", x.pace(t, 0), -1000000);
        }
    }

    private static void nowhere() {
        NoonWalker x = Due.told("town 1;town 2;road 0 1 5;");
        Due.is("nowhere: off", x.off(0, 5), -9);
        Due.is("nowhere: clock", x.clock(0, 5), -9);
        Due.is("nowhere: light", x.light(0, 5), 0);
        Due.is("nowhere: pace", x.pace(0, 5), -9);
        x = Due.told("town 1;town 2;town 3;road 0 1 5;stop 0 0;stop 1 0;");
        for (int hour = 0; hour < 7; hour++) {
            Due.is("no way: off", x.off(2, hour), -9);
            Due.is("no way: clock", x.clock(2, hour), -9);
            Due.is("no way: light", x.light(2, hour), 0);
            Due.is("no way: pace", x.pace(2, hour), -9);
        }
    }

    /** On a long road the way back over the town that he left becomes the longer one. */
    private static void shorterEnd() {
        NoonWalker x = Due.told("town 0;town 0;town 0;road 0 1 30;road 0 2 4;road 2 1 2;stop 0 0;stop 1 0;");
        Due.is("far(0, 1)", x.far(0, 1), 6);
        Due.is("off(0, 17)", x.off(0, 17), 17);
        Due.is("off(0, 18)", x.off(0, 18), 18);
        Due.is("off(0, 19)", x.off(0, 19), 17);
        Due.is("off(2, 14)", x.off(2, 14), 18);
        Due.is("off(2, 15)", x.off(2, 15), 17);
        Due.is("pace(0, 17)", x.pace(0, 17), 1);
        Due.is("pace(0, 18)", x.pace(0, 18), -1);
        Due.is("pace(0, 30)", x.pace(0, 30), 0);
    }

    private static void lightAndPace() {
        NoonWalker x = Due.told("town 0;town 0;road 0 1 30;stop 0 0;stop 1 0;");
        // town 0's clock is 12 + hour to hour 30: 17 in hour 5, 0 in hour 12, 6 in hour 18, 17 in 29, 18 in 30
        Due.is("light(0, 0)", x.light(0, 0), 0b1111_1100_0000_0000_0011_1111);
        Due.is("light(0, 18)", x.light(0, 18), 0b1111_1111_1111);
        Due.is("light(0, 30)", x.light(0, 30), 0);
        Due.is("light(0, 999)", x.light(0, 999), 0);
        Due.is("light(1, 999)", x.light(1, 999), 1);
        Due.is("light(1, 976)", x.light(1, 976), 0xFFFFFF);
        Due.is("light(1, 977)", x.light(1, 977), 0x7FFFFF);
        Due.is("clock(0, 11)", x.clock(0, 11), 23);
        Due.is("clock(0, 12)", x.clock(0, 12), 0);
        Due.is("pace(0, 11)", x.pace(0, 11), 1);
        Due.is("pace(1, 17)", x.pace(1, 17), -1);
        Due.is("clock(1, 18)", x.clock(1, 18), 0);
        Due.is("pace(1, 18)", x.pace(1, 18), -1);
        Due.is("pace(0, 998)", x.pace(0, 998), 0);
        Due.is("pace(0, 999)", x.pace(0, 999), -1000000);
    }

    public static void main(String[] args) {
        places();
        distances();
        nowhere();
        shorterEnd();
        lightAndPace();
        Due.finish("WalkTest");
    }
}
