/** Promises 24 to 30: now, illness, kinds, images, counts, the trace. */
public final class NowTest {
    private static final int[] WRONG = {-1, Integer.MIN_VALUE, Integer.MAX_VALUE};
    private static final int NO = -1000000;

    private static void go() {
        NoonWalker x = new NoonWalker();
        for (int n : WRONG) Due.is("go(" + n + ")", x.go(n), -1);
        Due.is("go(0)", x.go(0), -1);
        Due.is("go(1000)", x.go(1000), -1);
        Due.is("count(4)", x.count(4), 0);
        Due.is("go(1)", x.go(1), 1);
        Due.is("go(997)", x.go(997), 998);
        Due.is("go(999) to 999", x.go(999), 999);
        Due.is("go(1) at 999", x.go(1), -2);
        Due.is("go(0) at 999, BAD ahead of STATE", x.go(0), -1);
        Due.is("count(4)", x.count(4), 999);
    }

    private static void ill() {
        NoonWalker x = Due.told("town 1;town 2;road 0 1 5;stop 0 1;stop 1 1;stop 0 1;");
        // he comes in hours 0, 6, 12
        Due.is("ill(0, 5)", x.ill(0, 5), 1);
        Due.is("ill(0, 6)", x.ill(0, 6), 2);
        Due.is("ill(0, 12)", x.ill(0, 12), 3);
        Due.is("ill(3, 0), the first is not later than now", x.ill(3, 0), 1);
        Due.is("ill(3, 8)", x.ill(3, 8), 1);
        Due.is("ill(3, 9)", x.ill(3, 9), 2);
        Due.is("ill(99, 999)", x.ill(99, 999), 3);
        x.go(6);
        Due.is("ill(3, 6), now 6", x.ill(3, 6), 2);
        Due.is("ill(3, 14), now 6", x.ill(3, 14), 2);
        Due.is("ill(3, 15), now 6", x.ill(3, 15), 3);
        Due.is("ill(99, 110), now 6", x.ill(99, 110), 2);
        Due.is("ill(99, 111), now 6", x.ill(99, 111), 3);
        Due.is("nothing is kept of it", x.stop(2, 2), 12);
        for (int n : WRONG) {
            Due.is("ill(" + n + ", 0)", x.ill(n, 0), -1);
            Due.is("ill(0, " + n + ")", x.ill(0, n), -1);
        }
        Due.is("ill(100, 0)", x.ill(100, 0), -1);
        Due.is("ill(0, 1000)", x.ill(0, 1000), -1);
    }

    private static void rate() {
        NoonWalker x = Due.told("town 50;town 60;town 70;road 0 1 5;road 0 1 7;stop 0 1;stop 1 1;");
        x.go(4);
        // in hour 4 he is 3 miles from 0: clocks 15 and 14
        int[][] due = {{50, 52, 35, 104, 35, 54}, {60, 62, 46, 124, 47, 64}, {70, 70, 70, 140, 72, 74}};
        int[] bodies = {1, 11, 101, 1011, 10101, 100001};
        long trace = 0;
        for (int t = 0; t < 3; t++) {
            for (int kind = 0; kind < 6; kind++) {
                Due.is("rate(" + kind + ", " + t + ")", x.rate(kind, t), due[t][kind]);
                trace += bodies[kind];
                Due.is("trace()", x.trace(), trace);
            }
        }
        for (int n : WRONG) {
            Due.is("rate(" + n + ", 0)", x.rate(n, 0), NO);
            Due.is("rate(0, " + n + ")", x.rate(0, n), NO);
        }
        Due.is("rate(6, 0)", x.rate(6, 0), NO);
        Due.is("rate(0, 3)", x.rate(0, 3), NO);
        Due.is("trace() behind BAD", x.trace(), trace);
        x = Due.told("town 0;town 0;road 0 1 11;stop 0 0;");
        Due.is("rate below 0", x.rate(2, 1), -23);
        Due.is("rate below 0", x.rate(4, 1), -22);
        x.go(999);
        Due.is("rate, MILL in hour 999", x.rate(5, 1), 999);
    }

    private static void images() {
        NoonWalker x = Due.told("town 50;town 60;road 0 1 5;stop 0 1;");
        for (int n : WRONG) {
            Due.is("keep(" + n + ")", x.keep(n), -1);
            Due.is("back(" + n + ")", x.back(n), -1);
        }
        Due.is("keep(2)", x.keep(2), -1);
        Due.is("back(2)", x.back(2), -1);
        Due.is("back(0)", x.back(0), -2);
        x.saw(0, 12, 0);
        x.saw(1, 3, 9);
        x.go(7);
        Due.is("keep(0)", x.keep(0), 7);
        Due.is("back(1)", x.back(1), -2);
        x.forget();
        x.saw(1, 17, 0);
        x.go(3);
        Due.is("keep(1)", x.keep(1), 10);
        x.saw(1, 17, 0);
        x.rate(0, 0);
        Due.type(x, "town");
        Due.is("back(0)", x.back(0), 7);
        Due.is("count(3)", x.count(3), 2);
        Due.is("so()", x.so(), 1);
        Due.is("count(4)", x.count(4), 7);
        Due.is("count(5) stays", x.count(5), 4);
        Due.is("trace() stays", x.trace(), 1);
        Due.is("saw behind back(0)", x.saw(0, 12, 1), 3);
        Due.is("so()", x.so(), 5);
        Due.is("back(1)", x.back(1), 10);
        Due.is("count(3)", x.count(3), 1);
        Due.is("so()", x.so(), 1);
        Due.is("back(0) again", x.back(0), 7);
        Due.is("an image does not change", x.count(3), 2);
        Due.is("an image does not change", x.stood(9, 0), 0);
        x.go(1);
        Due.is("keep(1) over another", x.keep(1), 8);
        Due.is("go", x.go(1), 9);
        Due.is("back(1)", x.back(1), 8);
        Due.is("count(3)", x.count(3), 2);
    }

    private static void counts() {
        NoonWalker x = Due.told("town 50;town 60;town 1;road 0 1 5;road 1 2 5;stop 0 1;");
        x.saw(0, 0, 0);
        x.saw(0, 0, 0);
        x.saw(0, 0, 0);
        x.saw(0, 0, 0);
        x.go(5);
        Due.type(x, "stop 1");
        int[] due = {3, 2, 1, 4, 5, 6};
        for (int what = 0; what < 6; what++) Due.is("count(" + what + ")", x.count(what), due[what]);
        for (int n : WRONG) Due.is("count(" + n + ")", x.count(n), -1);
        Due.is("count(6)", x.count(6), -1);
    }

    public static void main(String[] args) {
        go();
        ill();
        rate();
        images();
        counts();
        Due.finish("NowTest");
    }
}
