/** Promises 1 to 30: the least and the greatest that each call takes, the next ones outside, and each reason to refuse it. */
public final class PromiseTest {
    private static final int NEW = Calls.NEW, USED = Calls.USED, FULL = Calls.FULL;
    private static final int BAD = -1, STATE = -2, IS_FULL = -3, NONE = -9, NO = -1000000;
    private static final long MIN = Integer.MIN_VALUE, MAX = Integer.MAX_VALUE;
    private static final long BLANKS = 0x2020202020202020L;

    private static long[] of(long... numbers) {
        return numbers;
    }

    /** Without towns there is none to ask for. */
    private static void noTowns(int bad, String name, long... base) {
        Calls.refused(bad, NEW, name, base);
        Calls.refused(bad, NEW, name, Calls.with(base, 0, -1));
        Calls.refused(bad, NEW, name, Calls.with(base, 0, 1));
    }

    private static NoonWalker blanks(int bytes) {
        NoonWalker x = new NoonWalker();
        Due.type(x, " ".repeat(bytes));
        return x;
    }

    // ---- 1

    static void promise1NothingIsTold() {
        NoonWalker x = new NoonWalker();
        for (int what = 0; what < 6; what++) Due.is("count(" + what + ")", x.count(what), 0);
        Due.is("trace()", x.trace(), 0);
        Due.is("clear()", x.clear(), 0);
        Due.is("forget()", x.forget(), 0);
        Due.is("so()", x.so(), 0);
        Due.is("two()", x.two(), 0);
        Due.is("ill(0, 999)", x.ill(0, 999), 0);
        Due.is("stood(0, 0)", x.stood(0, 0), 0);
        Due.is("stood(0, 1)", x.stood(0, 1), NONE);
        Due.is("land()", x.land(), 0);
    }

    static void promise1EachObjectIsItsOwn() {
        NoonWalker x = Calls.made(FULL);
        NoonWalker y = new NoonWalker();
        for (int what = 0; what < 6; what++) Due.is("count(" + what + ")", y.count(what), 0);
        y.go(1);
        Due.tell(y, "town 3;");
        Due.is("count(0)", x.count(0), 6);
        Due.is("count(4)", x.count(4), 999);
        Due.is("count(5)", x.count(5), 300);
    }

    // ---- 2

    static void promise2From1To8Bytes() {
        for (int n = 1; n <= 8; n++) Due.is("type(.., " + n + ")", new NoonWalker().type(BLANKS, n), n);
    }

    static void promise2NoOtherNumberOfBytes() {
        for (int state = NEW; state <= FULL; state++) {
            for (long n : of(0, 9, -1, MIN, MAX, 32, 256 + 1, 65536 + 8)) Calls.refused(BAD, state, "type", BLANKS, n);
        }
    }

    static void promise2AnyV() {
        for (long v : of(0, -1, Long.MIN_VALUE, Long.MAX_VALUE, MIN, MAX)) {
            Due.is("type(" + v + ", 8)", new NoonWalker().type(v, 8), 8);
            Due.is("type(" + v + ", 1)", new NoonWalker().type(v, 1), 1);
        }
    }

    static void promise2TheHighestFirst() {
        NoonWalker x = new NoonWalker();
        x.type(0x746F776E2039383BL, 8);
        Due.is("land()", x.land(), 1);
        Due.is("town(0, 0)", x.town(0, 0), 98);
    }

    static void promise2TheLowestAlone() {
        NoonWalker x = new NoonWalker();
        x.type(0x7878787878787874L, 1);
        x.type(0xFFFFFFFFFFFF6F77L, 2);
        x.type(0x808080806E203839L, 4);
        x.type(0xFF3BL, 1);
        Due.is("count(5)", x.count(5), 8);
        Due.is("land()", x.land(), 1);
        Due.is("town(0, 0)", x.town(0, 0), 89);
    }

    static void promise2BytesAbove127() {
        NoonWalker x = new NoonWalker();
        x.type(0xA0, 1);
        Due.is("land() of byte 160", x.land(), -10);
        x.clear();
        x.type(0x20FF, 2);
        Due.is("land() of byte 255", x.land(), -11);
    }

    static void promise2To300() {
        Due.is("8 behind 292", blanks(292).type(BLANKS, 8), 300);
        Due.is("1 behind 299", blanks(299).type(BLANKS, 1), 300);
        Due.is("7 behind 293", blanks(293).type(BLANKS, 7), 300);
    }

    static void promise2FullBeyond300() {
        for (int had = 293; had <= 300; had++) {
            for (int n = 1; n <= 8; n++) {
                NoonWalker x = blanks(had);
                Due.is(n + " behind " + had, x.type(BLANKS, n), had + n > 300 ? IS_FULL : had + n);
            }
        }
    }

    static void promise2FullChangesNothing() {
        for (int n = 1; n <= 8; n++) Calls.refused(IS_FULL, FULL, "type", -1L, n);
        NoonWalker x = blanks(299);
        Due.is("2 behind 299", x.type(0x2121, 2), IS_FULL);
        Due.is("count(5)", x.count(5), 299);
        Due.is("1 behind 299", x.type(0x20, 1), 300);
        Due.is("land()", x.land(), 0);
    }

    static void promise2BadAheadOfFull() {
        for (long n : of(0, 9, MAX, MIN)) Calls.refused(BAD, FULL, "type", BLANKS, n);
    }

    // ---- 3

    static void promise3HowManyItHad() {
        Due.is("none", new NoonWalker().clear(), 0);
        Due.is("one", blanks(1).clear(), 1);
        Due.is("all", blanks(300).clear(), 300);
    }

    static void promise3IsEmptyThen() {
        NoonWalker x = Calls.made(FULL);
        x.clear();
        Due.is("count(5)", x.count(5), 0);
        Due.is("clear() again", x.clear(), 0);
        Due.is("type", x.type(BLANKS, 8), 8);
        Due.is("land()", x.land(), 0);
    }

    static void promise3NothingElseChanges() {
        NoonWalker x = Calls.made(FULL);
        x.clear();
        int[] due = {6, 10, 10, 8, 999, 0};
        for (int what = 0; what < 6; what++) Due.is("count(" + what + ")", x.count(what), due[what]);
        Due.is("back(0)", x.back(0), 5);
    }

    // ---- 4

    static void promise4HowManyItems() {
        Due.good("", 0);
        Due.good("town 1;", 1);
        Due.good("town 1;".repeat(6) + "road 0 1 1;".repeat(10) + "stop 0 0;stop 1 0;".repeat(5), 26);
    }

    static void promise4TheTextIsEmptyThen() {
        NoonWalker x = blanks(300);
        Due.is("land()", x.land(), 0);
        Due.is("count(5)", x.count(5), 0);
        Due.is("type", x.type(BLANKS, 8), 8);
    }

    static void promise4LandOfNothingForgetsAll() {
        NoonWalker x = Calls.made(FULL);
        x.clear();
        Due.is("land()", x.land(), 0);
        for (int what = 0; what < 6; what++) Due.is("count(" + what + ")", x.count(what), 0);
        Due.is("back(0)", x.back(0), STATE);
        Due.is("where(0, 0)", x.where(0, 0), NONE);
        Due.is("stood(0, 0)", x.stood(0, 0), 0);
    }

    static void promise4LessThan10ByTheFault() {
        Due.fault("x", 0);
        Due.fault(" x", 1);
        Due.fault(" ".repeat(299) + "x", 299);
        Due.fault(" ".repeat(296) + "town", 300);
    }

    static void promise4WithAFaultNothingChanges() {
        Calls.refused(-16, USED, "land");
        Due.fault("town 1;town 2;road 0 1 3;stop 0 1;stop 1 1;town", 47);
    }

    static void promise4BehindAFaultTheTextGoesOn() {
        NoonWalker x = Calls.made(USED);
        Due.is("land()", x.land(), -16);
        Due.type(x, "8;");
        Due.is("land()", x.land(), 1);
        Due.is("town(0, 0)", x.town(0, 0), 98);
    }

    // ---- 5 to 8

    static void promise5Takes() {
        Calls.takes(BAD, USED, "town", of(1, 1), of(0, 3), of(0, 2));
        Calls.takes(BAD, FULL, "town", of(1, 1), of(0, 5), of(0, 2));
        noTowns(BAD, "town", 0, 0);
    }

    static void promise5LeastAndMost() {
        NoonWalker x = Due.told("town 0;town 99;town 1;" + "road 1 0 1;".repeat(10) + "stop 0 0;stop 1 0;".repeat(5));
        int[][] due = {{0, 10, 5}, {99, 10, 5}, {1, 0, 0}};
        for (int t = 0; t < 3; t++) {
            for (int what = 0; what < 3; what++) Due.is("town(" + t + ", " + what + ")", x.town(t, what), due[t][what]);
        }
    }

    static void promise6Takes() {
        Calls.takes(BAD, USED, "road", of(1, 1), of(0, 1), of(0, 2));
        Calls.takes(BAD, FULL, "road", of(1, 1), of(0, 9), of(0, 2));
        Calls.refused(BAD, NEW, "road", 0, 0);
        Calls.refused(BAD, NEW, "road", -1, 0);
    }

    static void promise6LeastAndMost() {
        NoonWalker x = Due.told("town 0;".repeat(6) + "road 5 0 1;road 0 5 30;");
        int[][] due = {{5, 0, 1}, {0, 5, 30}};
        for (int r = 0; r < 2; r++) {
            for (int what = 0; what < 3; what++) Due.is("road(" + r + ", " + what + ")", x.road(r, what), due[r][what]);
        }
    }

    static void promise7Takes() {
        Calls.takes(BAD, USED, "stop", of(1, 1), of(0, 2), of(0, 3));
        Calls.takes(BAD, FULL, "stop", of(1, 1), of(0, 9), of(0, 3));
        Calls.refused(BAD, NEW, "stop", 0, 0);
        Calls.refused(BAD, NEW, "stop", -1, 0);
    }

    static void promise7LeavesOrCould() {
        NoonWalker x = Due.told("town 0;town 0;road 0 1 30;stop 0 0;stop 1 9;");
        Due.is("the first, without rest", x.stop(0, 3), 0);
        Due.is("he comes", x.stop(1, 2), 30);
        Due.is("the last, he could", x.stop(1, 3), 39);
    }

    static void promise7TheLatestStop() {
        NoonWalker x = Calls.made(FULL);
        int[] due = {1, 9, 351, 360};
        for (int what = 0; what < 4; what++) Due.is("stop(9, " + what + ")", x.stop(9, what), due[what]);
    }

    static void promise8Takes() {
        Calls.takes(BAD, USED, "far", of(1, 1), of(0, 3), of(0, 3));
        Calls.takes(BAD, FULL, "far", of(1, 1), of(0, 5), of(0, 5));
        noTowns(BAD, "far", 0, 0);
        Calls.refused(BAD, USED, "far", 4, 4);
    }

    static void promise8LeastAndMost() {
        NoonWalker x = Due.told("town 0;".repeat(6) + "road 0 1 30;road 1 2 30;road 2 3 30;road 3 4 30;road 4 5 30;");
        Due.is("far(0, 0)", x.far(0, 0), 0);
        Due.is("far(5, 0)", x.far(5, 0), 150);
        Due.is("far(0, 1), no way", Calls.made(USED).far(0, 3), NONE);
    }

    // ---- 9 to 13

    static void promise9Takes() {
        for (int state = NEW; state <= FULL; state++) Calls.takes(BAD, state, "where", of(5, 1), of(0, 999), of(0, 3));
        Calls.refused(BAD, USED, "where", 1000, 4);
    }

    static void promise9LeastAndMostStops() {
        Due.is("none", new NoonWalker().where(999, 3), 0);
        NoonWalker x = Calls.made(FULL);
        Due.is("where(0, 3)", x.where(0, 3), 1);
        Due.is("where(38, 3)", x.where(38, 3), 1);
        Due.is("where(39, 3)", x.where(39, 3), 2);
        Due.is("where(350, 3)", x.where(350, 3), 9);
        Due.is("where(351, 3)", x.where(351, 3), 10);
        Due.is("where(999, 3)", x.where(999, 3), 10);
    }

    static void promise9MostMilesOnARoad() {
        NoonWalker x = Calls.made(FULL);
        Due.is("where(9, 2)", x.where(9, 2), 0);
        Due.is("where(10, 2)", x.where(10, 2), 1);
        Due.is("where(38, 2)", x.where(38, 2), 29);
        Due.is("where(39, 2)", x.where(39, 2), 0);
    }

    static void promise9EachHourIsInATownOrOnARoad() {
        NoonWalker x = Calls.made(FULL);
        for (int hour = 0; hour <= 100; hour++) {
            boolean road = hour > 9 && hour % 39 > 9;
            Due.is("where(" + hour + ", 0)", x.where(hour, 0), road ? NONE : hour / 39 % 2);
            Due.is("where(" + hour + ", 1)", x.where(hour, 1), road ? 0 : NONE);
            Due.is("where(" + hour + ", 2)", x.where(hour, 2), road ? hour % 39 - 9 : 0);
        }
    }

    static void promise10Takes() {
        Calls.takes(BAD, USED, "off", of(1, 5), of(0, 3), of(0, 999));
        Calls.takes(BAD, FULL, "off", of(1, 5), of(0, 5), of(0, 999));
        noTowns(BAD, "off", 0, 0);
        Calls.refused(BAD, USED, "off", 4, 1000);
    }

    static void promise10LeastAndMost() {
        NoonWalker x = Due.told("town 0;".repeat(6) + "road 0 1 30;road 1 2 30;road 2 3 30;road 3 4 30;road 4 5 30;stop 0 0;stop 1 0;");
        Due.is("off(0, 0)", x.off(0, 0), 0);
        Due.is("off(5, 0)", x.off(5, 0), 150);
        Due.is("off(5, 1)", x.off(5, 1), 149);
        Due.is("off(5, 999)", x.off(5, 999), 120);
        Due.is("off(3, 5), no way", Calls.made(USED).off(3, 5), NONE);
        Due.is("off(0, 0), nowhere", Due.told("town 0;").off(0, 0), NONE);
    }

    static void promise11Takes() {
        Calls.takes(BAD, USED, "clock", of(1, 5), of(0, 3), of(0, 999));
        Calls.takes(BAD, FULL, "clock", of(1, 5), of(0, 5), of(0, 999));
        noTowns(BAD, "clock", 0, 0);
        Calls.refused(BAD, USED, "clock", 4, 1000);
    }

    static void promise11LeastAndMost() {
        NoonWalker x = Due.told("town 0;town 0;road 0 1 30;stop 0 0;stop 1 0;");
        for (int hour = 0; hour <= 30; hour++) Due.is("clock(0, " + hour + ")", x.clock(0, hour), (12 + hour) % 24);
        Due.is("clock(1, 5), no way", Calls.made(USED).clock(3, 5), NONE);
    }

    static void promise12Takes() {
        Calls.takes(BAD, USED, "light", of(1, 5), of(0, 3), of(0, 999));
        Calls.takes(BAD, FULL, "light", of(1, 5), of(0, 5), of(0, 999));
        noTowns(BAD, "light", 0, 0);
        Calls.refused(BAD, USED, "light", 4, 1000);
    }

    static void promise12Of24HoursTo999() {
        NoonWalker x = Due.told("town 0;stop 0 0;");
        Due.is("light(0, 0)", x.light(0, 0), 0xFFFFFF);
        Due.is("light(0, 976)", x.light(0, 976), 0xFFFFFF);
        Due.is("light(0, 977)", x.light(0, 977), 0x7FFFFF);
        Due.is("light(0, 998)", x.light(0, 998), 3);
        Due.is("light(0, 999)", x.light(0, 999), 1);
    }

    static void promise12TheFirstAndTheLastBit() {
        NoonWalker x = Due.told("town 0;town 0;road 0 1 30;stop 0 0;stop 1 0;stop 0 0;");
        // at 0 it is light to hour 5 (17), from 18 (6) to 29 (17), from 31 (17 again) to 42 (6)
        Due.is("light(0, 5)", x.light(0, 5), 0b1111_1111_1110_0000_0000_0001);
        Due.is("light(0, 6)", x.light(0, 6), 0b1111_1111_1111_0000_0000_0000);
        Due.is("light(0, 7)", x.light(0, 7), 0b0111_1111_1111_1000_0000_0000);
        Due.is("light(0, 29)", x.light(0, 29), 0b0000_0000_0011_1111_1111_1101);
        Due.is("light(0, 42)", x.light(0, 42), 0b1111_1111_1110_0000_0000_0001);
    }

    static void promise13Takes() {
        Calls.takes(NO, USED, "pace", of(1, 5), of(0, 3), of(0, 998));
        Calls.takes(NO, FULL, "pace", of(1, 5), of(0, 5), of(0, 998));
        noTowns(NO, "pace", 0, 0);
        Calls.refused(NO, USED, "pace", 1, 1000);
        Calls.refused(NO, USED, "pace", 4, 999);
    }

    static void promise13IsNoneWithoutAClock() {
        Due.is("no way", Calls.made(USED).pace(3, 0), NONE);
        Due.is("nowhere", Due.told("town 0;").pace(0, 998), NONE);
    }

    // ---- 14 to 18

    static void promise14Takes() {
        Calls.takes(BAD, USED, "early", of(1, 2, 5), of(0, 3), of(0, 3), of(0, 999));
        Calls.takes(BAD, FULL, "early", of(1, 2, 5), of(0, 5), of(0, 5), of(0, 999));
        noTowns(BAD, "early", 0, 0, 0);
    }

    static void promise14OneAndTheSame() {
        for (int t = 0; t < 4; t++) Calls.refused(BAD, USED, "early", t, t, 5);
        Calls.refused(BAD, USED, "early", 4, 4, 5);
        Calls.refused(BAD, USED, "early", 1, 1, 1000);
    }

    static void promise14HoursTo999() {
        NoonWalker x = Due.told("town 0;town 0;road 0 1 3;stop 0 0;");
        Due.is("early(1, 0, 976)", x.early(1, 0, 976), 0xFFFFFF);
        Due.is("early(1, 0, 977)", x.early(1, 0, 977), 0x7FFFFF);
        Due.is("early(1, 0, 999)", x.early(1, 0, 999), 1);
    }

    static void promise14APostMayBeThereLater() {
        NoonWalker x = Due.told("town 0;".repeat(6) + "road 0 1 30;road 1 2 30;road 2 3 30;road 3 4 30;road 4 5 30;stop 0 0;");
        Due.is("150 hours behind 999", x.early(5, 0, 999), 1);
        Due.is("30 hours behind 990", x.early(1, 0, 990), 0x3FF);
    }

    static void promise15Takes() {
        long[] base = of(1, 5, 2, 5, 0, 1);
        Calls.takes(BAD, USED, "meets", base, of(0, 3), of(0, 900), of(0, 3), of(0, 900), of(0, 3), of(0, 1));
        Calls.takes(BAD, FULL, "meets", base, of(0, 5), of(0, 900), of(0, 5), of(0, 900), of(0, 5), of(0, 1));
        noTowns(BAD, "meets", 0, 0, 0, 0, 0, 0);
    }

    static void promise15BadAheadOfNone() {
        Calls.refused(BAD, USED, "meets", 0, 901, 3, 0, 1, 0);
        Calls.refused(BAD, USED, "meets", 0, 0, 3, 0, 1, 2);
        Calls.refused(BAD, USED, "meets", 3, 0, 0, -1, 1, 0);
    }

    static void promise15From0To900() {
        NoonWalker x = Due.told("town 0;".repeat(6) + "road 0 1 30;road 1 2 30;road 2 3 30;road 3 4 30;road 4 5 30;stop 0 0;");
        Due.is("the earliest", x.meets(0, 0, 0, 0, 0, 0), 0);
        Due.is("the earliest, clock", x.meets(0, 0, 0, 0, 0, 1), 12);
        Due.is("the latest", x.meets(0, 900, 0, 900, 5, 0), 1050);
        Due.is("the latest, clock", x.meets(0, 900, 0, 900, 5, 1), 18);
        Due.is("behind hour 999", x.meets(4, 900, 4, 880, 0, 0), 1020);
        Due.is("behind hour 999, clock", x.meets(4, 900, 4, 880, 0, 1), 12);
    }

    static void promise16Takes() {
        Calls.takes(BAD, USED, "midnights", of(1, 400, 500), of(0, 3), of(0, 500), of(400, 1000));
        Calls.takes(BAD, USED, "midnights", of(1, 400, 1000), of(0, 3), of(0, 999), of(400, 1000));
        Calls.takes(BAD, FULL, "midnights", of(1, 999, 1000), of(0, 5), of(0, 999), of(999, 1000));
        noTowns(BAD, "midnights", 0, 0, 1);
    }

    static void promise16NoHours() {
        for (long a : of(0, 1, 500, 999)) Calls.taken(BAD, USED, "midnights", 0, a, a);
        Calls.refused(BAD, USED, "midnights", 0, 1000, 1000);
        Calls.refused(BAD, USED, "midnights", 0, -1, -1);
        Calls.refused(BAD, USED, "midnights", 0, 500, 499);
    }

    static void promise16TheLastHour() {
        NoonWalker x = Due.told("town 0;town 0;road 0 1 12;stop 0 0;");
        Due.is("midnights(1, 999, 1000)", x.midnights(1, 999, 1000), 0);
        Due.is("midnights(1, 0, 1000)", x.midnights(1, 0, 1000), 1);
    }

    static void promise17Takes() {
        Calls.takes(NO, USED, "gains", of(1, 400, 500, 5), of(0, 3), of(0, 500), of(400, 1000), of(1, 99));
        Calls.takes(NO, FULL, "gains", of(1, 999, 1000, 5), of(0, 5), of(0, 999), of(999, 1000), of(1, 99));
        noTowns(NO, "gains", 0, 0, 1, 1);
    }

    static void promise17LeastAndMost() {
        NoonWalker x = Due.told("town 0;town 0;road 0 1 12;stop 0 0;");
        Due.is("w 1", x.gains(1, 0, 1, 1), 1);
        Due.is("w 99", x.gains(1, 0, 1, 99), 99);
        Due.is("all hours, w 99", x.gains(0, 0, 1000, 99), -4059);
        Due.is("no hours, w 99", x.gains(1, 0, 0, 99), 0);
        Due.is("-1 is no refusal", x.gains(0, 0, 24, 1), -1);
    }

    static void promise18Takes() {
        Calls.takes(NO, USED, "best", of(1, 1), of(0, 3), of(-1, 5));
        Calls.takes(NO, FULL, "best", of(1, 1), of(0, 5), of(-1, 5));
        noTowns(NO, "best", 0, -1);
        Calls.refused(NO, USED, "best", 4, 6);
    }

    static void promise18NotSoManyIsNone() {
        NoonWalker x = Due.told("town 5;town 9;road 0 1 1;");
        int[] due = {0, 1, NONE, NONE, NONE, NONE};
        for (int i = 0; i < 6; i++) Due.is("best(0, " + i + ")", x.best(0, i), due[i]);
        Due.is("best(0, -1)", x.best(0, -1), 12);
    }

    static void promise18AsOftenAsAsked() {
        NoonWalker x = Due.told("town 5;town 9;town 1;road 0 1 1;");
        for (int i = 0; i < 3; i++) {
            Due.is("best(2, 1)", x.best(2, 1), NONE);
            Due.is("best(1, 1)", x.best(1, 1), 0);
            Due.is("best(2, -1)", x.best(2, -1), 1);
        }
    }

    // ---- 19 to 23

    static void promise19Takes() {
        Calls.takes(BAD, USED, "saw", of(1, 5, 5), of(0, 3), of(0, 23), of(0, 999));
        noTowns(BAD, "saw", 0, 0, 0);
    }

    static void promise19HowMuchThereIs() {
        NoonWalker x = Due.told("town 0;");
        for (int i = 1; i <= 8; i++) Due.is("saw", x.saw(0, 23, 999), i);
        Due.is("count(3)", x.count(3), 8);
    }

    static void promise19Full() {
        Calls.refused(IS_FULL, FULL, "saw", 0, 0, 0);
        Calls.refused(IS_FULL, FULL, "saw", 5, 23, 999);
    }

    static void promise19BadAheadOfFull() {
        long[][] bad = {{6, 0, 0}, {-1, 0, 0}, {0, 24, 0}, {0, -1, 0}, {0, 0, 1000}, {0, 0, -1}, {MAX, MAX, MAX}};
        for (long[] numbers : bad) Calls.refused(BAD, FULL, "saw", numbers);
    }

    static void promise20HowMuchThereWas() {
        Due.is("none", new NoonWalker().forget(), 0);
        Due.is("some", Calls.made(USED).forget(), 2);
        Due.is("all", Calls.made(FULL).forget(), 8);
    }

    static void promise20NothingIsSeenThen() {
        NoonWalker x = Calls.made(FULL);
        x.forget();
        Due.is("count(3)", x.count(3), 0);
        Due.is("so()", x.so(), 0);
        Due.is("two()", x.two(), 0);
        Due.is("stood(7, 0)", x.stood(7, 0), 296);
        Due.is("saw", x.saw(0, 0, 0), 1);
        Due.is("count(4)", x.count(4), 999);
        Due.is("back(0)", x.back(0), 5);
        Due.is("count(3)", x.count(3), 8);
    }

    static void promise21EightBits() {
        NoonWalker x = Due.told("town 0;stop 0 0;");
        for (int i = 1; i <= 8; i++) {
            x.saw(0, 12, 124 * i);
            Due.is("so(), " + i + " seen", x.so(), (1 << i) - 1);
        }
    }

    static void promise22Takes() {
        for (int state = NEW; state <= FULL; state++) {
            Calls.takes(BAD, state, "stood", of(5, 1), of(0, 999), of(0, 1));
            Calls.refused(BAD, state, "stood", 1000, 2);
        }
    }

    static void promise22TheFirstAndTheLastHour() {
        NoonWalker x = Due.told("town 0;town 0;road 0 1 3;stop 0 0;");
        x.saw(0, 14, 0);
        x.saw(0, 15, 999);
        Due.is("stood(0, 1)", x.stood(0, 1), 102);
        Due.is("stood(999, 1)", x.stood(999, 1), 1);
        Due.is("stood(998, 0)", x.stood(998, 0), 4);
    }

    static void promise22NoneIsTheFirstOfNone() {
        NoonWalker x = Due.told("town 0;");
        x.saw(0, 13, 7);
        Due.is("stood(7, 0)", x.stood(7, 0), 0);
        Due.is("stood(7, 1)", x.stood(7, 1), NONE);
        Due.is("without towns", new NoonWalker().stood(7, 1), NONE);
    }

    static void promise23OneOrNone() {
        NoonWalker x = Due.told("town 0;");
        Due.is("nothing seen", x.two(), 0);
        x.saw(0, 12, 999);
        Due.is("noon seen", x.two(), 0);
        x.saw(0, 11, 0);
        Due.is("more seen", x.two(), 1);
        x.saw(0, 11, 1);
        Due.is("in several hours", x.two(), 1);
    }

    // ---- 24, 25

    static void promise24Takes() {
        Calls.takes(BAD, NEW, "go", of(5), of(1, 999));
        Calls.takes(BAD, USED, "go", of(5), of(1, 999));
        Calls.refused(BAD, USED, "go", 0);
    }

    static void promise24To999() {
        int[][] due = {{1, 1, 2}, {1, 997, 998}, {1, 998, 999}, {1, 999, 999}, {998, 1, 999}, {998, 999, 999}, {500, 499, 999}};
        for (int[] row : due) {
            NoonWalker x = new NoonWalker();
            Due.is("go(" + row[0] + ")", x.go(row[0]), row[0]);
            Due.is("go(" + row[1] + ")", x.go(row[1]), row[2]);
            Due.is("count(4)", x.count(4), row[2]);
        }
    }

    static void promise24StateInHour999() {
        Calls.refused(STATE, FULL, "go", 1);
        Calls.refused(STATE, FULL, "go", 999);
    }

    static void promise24BadAheadOfState() {
        for (long n : of(0, -1, 1000, MIN, MAX)) Calls.refused(BAD, FULL, "go", n);
    }

    static void promise25Takes() {
        for (int state = NEW; state <= FULL; state++) Calls.takes(BAD, state, "ill", of(5, 5), of(0, 99), of(0, 999));
        Calls.refused(BAD, USED, "ill", 100, 1000);
    }

    static void promise25ByTheFirstAndTheLastHour() {
        NoonWalker x = Due.told("town 0;town 0;road 0 1 30;" + "stop 0 9;stop 1 9;".repeat(5));
        Due.is("ill(99, 0)", x.ill(99, 0), 1);
        Due.is("ill(99, 999)", x.ill(99, 999), 10);
        Due.is("ill(0, 350)", x.ill(0, 350), 9);
        Due.is("ill(0, 351)", x.ill(0, 351), 10);
        Due.is("ill(1, 351)", x.ill(1, 351), 9);
    }

    static void promise25InTheLastHour() {
        NoonWalker x = Calls.made(FULL);
        Due.is("ill(99, 350)", x.ill(99, 350), 9);
        Due.is("ill(99, 351)", x.ill(99, 351), 10);
    }

    // ---- 26 to 30

    static void promise26Takes() {
        Calls.takes(NO, USED, "rate", of(1, 1), of(0, 5), of(0, 3));
        Calls.takes(NO, FULL, "rate", of(1, 1), of(0, 5), of(0, 5));
        Calls.refused(NO, NEW, "rate", 0, 0);
        Calls.refused(NO, NEW, "rate", 5, -1);
    }

    static void promise26BadIsNotTraced() {
        for (int kind = 0; kind < 6; kind++) {
            NoonWalker x = Calls.made(USED);
            Due.is("rate(" + kind + ", 4)", x.rate(kind, 4), NO);
            Due.is("rate(" + kind + ", -1)", x.rate(kind, -1), NO);
            Due.is("trace()", x.trace(), 1011);
        }
    }

    static void promise26MayBeBelow0() {
        NoonWalker x = Due.told("town 11;stop 0 0;");
        Due.is("rate(2, 0), as BAD is", x.rate(2, 0), -1);
        x = Due.told("town 0;town 0;road 0 1 11;stop 0 0;");
        Due.is("rate(2, 1), the least", x.rate(2, 1), -23);
        Due.is("rate(4, 1)", x.rate(4, 1), -22);
    }

    static void promise27Takes() {
        for (int state = NEW; state <= FULL; state++) Calls.takes(BAD, state, "keep", of(0), of(0, 1));
    }

    static void promise27TheHour() {
        Due.is("the first", new NoonWalker().keep(0), 0);
        Due.is("the last", Calls.made(FULL).keep(1), 999);
    }

    static void promise28Takes() {
        Calls.takes(BAD, FULL, "back", of(0), of(0, 1));
        for (long image : of(-1, 2, MIN, MAX)) {
            Calls.refused(BAD, NEW, "back", image);
            Calls.refused(BAD, USED, "back", image);
        }
    }

    static void promise28StateWhereNoneWasKept() {
        Calls.refused(STATE, NEW, "back", 0);
        Calls.refused(STATE, NEW, "back", 1);
        Calls.refused(STATE, USED, "back", 1);
        Due.is("the other one", Calls.made(USED).back(0), 0);
    }

    static void promise28FromTheLastHourToTheFirst() {
        NoonWalker x = new NoonWalker();
        x.keep(1);
        x.go(999);
        Due.is("go(1)", x.go(1), STATE);
        Due.is("back(1)", x.back(1), 0);
        Due.is("count(4)", x.count(4), 0);
        Due.is("go(1)", x.go(1), 1);
    }

    static void promise28AsOftenAsAsked() {
        NoonWalker x = Calls.made(USED);
        for (int i = 0; i < 3; i++) {
            x.go(7);
            Due.is("back(0)", x.back(0), 0);
            Due.is("count(3)", x.count(3), 1);
        }
    }

    static void promise29Takes() {
        for (int state = NEW; state <= FULL; state++) Calls.takes(BAD, state, "count", of(0), of(0, 5));
    }

    static void promise29LeastAndMost() {
        int[] used = {4, 2, 3, 2, 14, 6};
        int[] full = {6, 10, 10, 8, 999, 300};
        for (int what = 0; what < 6; what++) {
            Due.is("new, count(" + what + ")", Calls.made(NEW).count(what), 0);
            Due.is("used, count(" + what + ")", Calls.made(USED).count(what), used[what]);
            Due.is("full, count(" + what + ")", Calls.made(FULL).count(what), full[what]);
        }
    }

    static void promise30From0() {
        NoonWalker x = Due.told("town 1;");
        Due.is("none", x.trace(), 0);
        x.rate(0, 0);
        Due.is("the least", x.trace(), 1);
    }

    static void promise30TheMostIn512Calls() {
        NoonWalker x = new NoonWalker();
        x.type(0x746F776E20313B20L, 8);
        x.land();
        for (int i = 0; i < 509; i++) x.rate(5, 0);
        Due.is("the 512th call", x.trace(), 509L * 100001);
    }

    public static void main(String[] args) throws ReflectiveOperationException {
        Due.all(PromiseTest.class, "promise");
    }
}
