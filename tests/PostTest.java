/** Promises 14 to 18: posts, meetings, midnights, gains, the best way. */
public final class PostTest {
    private static final int[] WRONG_TOWNS = {-1, 3, 6, Integer.MIN_VALUE, Integer.MAX_VALUE};
    private static final int NO = -1000000;

    /** He goes from 0 to 1 in hours 1 to 30 and stays there; nothing leads to 2. */
    private static NoonWalker walk() {
        return Due.told("town 9;town 8;town 7;road 0 1 30;stop 0 0;stop 1 0;");
    }

    private static void early() {
        NoonWalker x = walk();
        // behind hour 30: clock 18 at 0, 12 at 1
        Due.is("early(0, 1, 100)", x.early(0, 1, 100), 0xFFFFFF);
        Due.is("early(1, 0, 100)", x.early(1, 0, 100), 0);
        Due.is("early(0, 1, 976)", x.early(0, 1, 976), 0xFFFFFF);
        Due.is("early(0, 1, 999)", x.early(0, 1, 999), 1);
        Due.is("early(0, 1, 990)", x.early(0, 1, 990), 0x3FF);
        // from 0 in hours 0 to 23 with clocks 12 .. 23, 0 .. 11; at 1 it is noon 30 hours later
        Due.is("early(0, 1, 0)", x.early(0, 1, 0), 0xFFE);
        // from 1 with clocks 18, 17 .. 0, 23 .. 19; at 0 it is 18 then
        Due.is("early(1, 0, 0)", x.early(1, 0, 0), 0xF80000);
        Due.is("early without a way", x.early(0, 2, 0), 0);
        Due.is("early without a way", x.early(2, 1, 0), 0);
        Due.is("early(1, 1, 0)", x.early(1, 1, 0), -1);
        Due.is("early(0, 1, -1)", x.early(0, 1, -1), -1);
        Due.is("early(0, 1, 1000)", x.early(0, 1, 1000), -1);
        for (int t : WRONG_TOWNS) {
            Due.is("early(" + t + ", 0, 0)", x.early(t, 0, 0), -1);
            Due.is("early(0, " + t + ", 0)", x.early(0, t, 0), -1);
        }
        x = Due.told("town 9;town 8;road 0 1 1;");
        Due.is("early when he is nowhere", x.early(0, 1, 0), 0);
    }

    private static void meets() {
        NoonWalker x = Due.told("town 9;town 8;town 7;road 0 1 4;road 1 2 9;stop 0 0;stop 1 0;");
        Due.is("meets(0, 5, 2, 0, 1, 0)", x.meets(0, 5, 2, 0, 1, 0), 9);
        Due.is("meets(0, 5, 2, 1, 1, 0)", x.meets(0, 5, 2, 1, 1, 0), 10);
        Due.is("meets(0, 0, 0, 1, 0, 0)", x.meets(0, 0, 0, 1, 0, 0), 1);
        Due.is("meets(0, 0, 0, 1, 0, 1)", x.meets(0, 0, 0, 1, 0, 1), 13);
        Due.is("meets(1, 900, 1, 0, 2, 0)", x.meets(1, 900, 1, 0, 2, 0), 909);
        Due.is("meets(1, 900, 1, 0, 2, 1)", x.meets(1, 900, 1, 0, 2, 1), 21);
        int[][] bad = {{-1, 0, 0, 0, 0, 0}, {3, 0, 0, 0, 0, 0}, {0, -1, 0, 0, 0, 0}, {0, 901, 0, 0, 0, 0},
            {0, 0, -1, 0, 0, 0}, {0, 0, 3, 0, 0, 0}, {0, 0, 0, -1, 0, 0}, {0, 0, 0, 901, 0, 0},
            {0, 0, 0, 0, -1, 0}, {0, 0, 0, 0, 3, 0}, {0, 0, 0, 0, 0, -1}, {0, 0, 0, 0, 0, 2}};
        for (int[] n : bad) Due.is("meets, BAD", x.meets(n[0], n[1], n[2], n[3], n[4], n[5]), -1);
        x = Due.told("town 1;".repeat(6) + "road 0 1 30;road 1 2 30;road 2 3 30;road 3 4 30;road 4 5 30;stop 0 0;");
        Due.is("the latest meeting", x.meets(0, 900, 5, 900, 5, 0), 1050);
        Due.is("the latest meeting's clock", x.meets(0, 900, 5, 900, 5, 1), (12 + 150) % 24);
        x = walk();
        Due.is("meets without a way", x.meets(0, 0, 2, 0, 0, 0), -9);
        Due.is("meets without a way", x.meets(2, 0, 0, 0, 0, 1), -9);
        Due.is("meets without his way", x.meets(2, 3, 2, 4, 2, 0), 4);
        Due.is("meets without a clock", x.meets(2, 3, 2, 4, 2, 1), -9);
    }

    private static void midnights() {
        NoonWalker x = Due.told("town 1;town 1;town 1;town 1;road 0 1 24;road 1 2 12;stop 0 9;stop 1 9;stop 0 9;stop 1 0;stop 2 5;");
        Due.is("midnights in hour 0", x.midnights(2, 0, 1), 1);
        Due.is("still 0 in hours 1 to 9", x.midnights(2, 0, 10), 1);
        Due.is("all midnights", x.midnights(2, 0, 200), 4);
        Due.is("midnights to 39", x.midnights(2, 0, 40), 2);
        Due.is("midnights from 40", x.midnights(2, 40, 200), 2);
        x = Due.told("town 1;town 1;town 1;road 0 1 12;stop 0 9;stop 1 9;");
        Due.is("hour 0 where it is 0", x.midnights(1, 0, 1), 1);
        Due.is("no hours", x.midnights(1, 0, 0), 0);
        Due.is("still 0 in hour 1", x.midnights(1, 1, 10), 0);
        Due.is("one midnight", x.midnights(1, 0, 1000), 1);
        Due.is("midnight of town 0, hour 21", x.midnights(0, 21, 22), 1);
        Due.is("midnight of town 0, before", x.midnights(0, 0, 21), 0);
        Due.is("midnight of town 0, behind", x.midnights(0, 22, 1000), 0);
        Due.is("midnights without a way", x.midnights(2, 0, 1000), 0);
        Due.is("midnights(0, 999, 1000)", x.midnights(0, 999, 1000), 0);
        Due.is("midnights(0, 999, 999)", x.midnights(0, 999, 999), 0);
        int[][] bad = {{-1, 5}, {5, 4}, {0, 1001}, {1000, 1000}, {0, -1}, {Integer.MIN_VALUE, 0}, {0, Integer.MAX_VALUE}};
        for (int[] n : bad) {
            Due.is("midnights(0, " + n[0] + ", " + n[1] + ")", x.midnights(0, n[0], n[1]), -1);
            Due.is("gains(0, " + n[0] + ", " + n[1] + ", 1)", x.gains(0, n[0], n[1], 1), NO);
        }
        for (int t : WRONG_TOWNS) {
            Due.is("midnights(" + t + ", 0, 1)", x.midnights(t, 0, 1), -1);
            Due.is("gains(" + t + ", 0, 1, 1)", x.gains(t, 0, 1, 1), NO);
        }
        Due.is("gains of a midnight", x.gains(0, 0, 23, 99), 99);
        Due.is("gains of a midnight and a day", x.gains(0, 0, 24, 99), 0);
        Due.is("gains, days alone", x.gains(0, 30, 30 + 47, 1), -1);
        Due.is("gains, two days", x.gains(0, 30, 30 + 48, 5), -10);
        Due.is("gains, w 0", x.gains(0, 0, 1, 0), NO);
        Due.is("gains, w 100", x.gains(0, 0, 1, 100), NO);
        Due.is("gains, w -1", x.gains(0, 0, 1, -1), NO);
    }

    private static void row(NoonWalker x, int t, int worth, int... towns) {
        Due.is("best(" + t + ", -1)", x.best(t, -1), worth);
        for (int i = 0; i < 6; i++) Due.is("best(" + t + ", " + i + ")", x.best(t, i), i < towns.length ? towns[i] : -9);
    }

    private static void best() {
        NoonWalker x = walk();
        row(x, 0, 9, 0);
        row(x, 2, 7, 2);
        Due.is("best(0, -2)", x.best(0, -2), NO);
        Due.is("best(0, 6)", x.best(0, 6), NO);
        Due.is("best(0, MAX)", x.best(0, Integer.MAX_VALUE), NO);
        for (int t : WRONG_TOWNS) Due.is("best(" + t + ", 0)", x.best(t, 0), NO);
        // as much with the second town as without: the row that ends is ahead of the one that goes on
        row(Due.told("town 9;town 8;road 0 1 4;"), 0, 9, 0);
        row(Due.told("town 9;town 9;road 0 1 4;"), 0, 10, 0, 1);
        // of both ways round the lower town comes first
        row(Due.told("town 9;town 9;town 9;road 0 1 1;road 1 2 1;road 2 0 1;"), 2, 24, 2, 0, 1);
        // over a town that is not in the row: its bid is not counted, the way is
        row(Due.told("town 50;town 0;town 50;road 0 1 1;road 1 2 1;"), 0, 96, 0, 1, 2);
        row(Due.told("town 99;town 0;town 99;town 99;road 0 1 1;road 0 2 1;road 0 3 1;"), 0, 293, 0, 1 + 1, 3);
        row(Due.told("town 0;".repeat(6)), 5, 0, 5);
        row(Due.told("town 99;".repeat(6) + "road 0 1 1;road 1 2 1;road 2 3 1;road 3 4 1;road 4 5 1;road 5 0 1;"), 3, 588, 3, 2, 1, 0, 5, 4);
    }

    public static void main(String[] args) {
        early();
        meets();
        midnights();
        best();
        Due.finish("PostTest");
    }
}
