/** Part 4 of the document, kinds, the trace, images, what a new land leaves: a test for each boundary that it names. */
public final class Part4Test {
    private static final String LAND = "town 50;town 60;town 70;road 0 1 5;road 0 1 7;stop 0 1;stop 1 1;";

    private static long traceOf(int kind) {
        NoonWalker x = Due.told(LAND);
        x.rate(kind, 0);
        return x.trace();
    }

    // ---- KINDS, RATE, THE TRACE

    static void part4TheTraceIs0AtFirst() {
        Due.is("trace()", new NoonWalker().trace(), 0);
    }

    static void part4EachBodyIsTracedOnce() {
        int[] due = {1, 11, 101, 1011, 10101, 100001};
        for (int kind = 0; kind < 6; kind++) Due.is("trace of kind " + kind, traceOf(kind), due[kind]);
    }

    static void part4TheTraceIsAddedUp() {
        NoonWalker x = Due.told(LAND);
        for (int kind = 0; kind < 6; kind++) x.rate(kind, 2);
        Due.is("trace()", x.trace(), 111226);
        for (int i = 0; i < 400; i++) x.rate(5, 0);
        Due.is("trace()", x.trace(), 111226 + 400 * 100001);
    }

    static void part4TownIsItsBid() {
        NoonWalker x = Due.told("town 0;town 99;");
        Due.is("rate(0, 0)", x.rate(0, 0), 0);
        Due.is("rate(0, 1)", x.rate(0, 1), 99);
    }

    static void part4MarketByItsRoads() {
        Due.is("no roads", Due.told(LAND).rate(1, 2), 70);
        Due.is("two roads", Due.told(LAND).rate(1, 1), 62);
        Due.is("ten roads", Due.told("town 99;town 99;" + "road 1 0 1;".repeat(10)).rate(1, 0), 109);
    }

    static void part4InnByItsClockNow() {
        NoonWalker x = Due.told("town 0;town 50;road 0 1 30;stop 0 0;stop 1 0;");
        Due.is("noon", x.rate(2, 0), -12);
        x.go(11);
        Due.is("23", x.rate(2, 0), -23);
        x.go(1);
        Due.is("0", x.rate(2, 0), 0);
        x.go(999);
        Due.is("noon in hour 999", x.rate(2, 1), 38);
    }

    static void part4InnWithoutAClock() {
        Due.is("no way", Due.told(LAND).rate(2, 2), 70);
        Due.is("nowhere", Due.told("town 8;").rate(2, 0), 8);
    }

    static void part4FairIsTwiceTheMarket() {
        Due.is("rate(3, 0)", Due.told(LAND).rate(3, 0), 104);
        Due.is("the most", Due.told("town 99;town 99;" + "road 1 0 1;".repeat(10)).rate(3, 1), 218);
        Due.is("the least", Due.told("town 0;").rate(3, 0), 0);
    }

    static void part4FerryIsTheInnAndItsNumber() {
        Due.is("number 0", Due.told(LAND).rate(4, 0), 38);
        Due.is("number 1", Due.told(LAND).rate(4, 1), 60 - 17 + 1);
        Due.is("number 5", Due.told("town 0;".repeat(5) + "town 9;stop 5 0;").rate(4, 5), 9 - 12 + 5);
        Due.is("number 2, no clock", Due.told(LAND).rate(4, 2), 72);
    }

    static void part4MillByTheHour() {
        NoonWalker x = Due.told(LAND);
        Due.is("hour 0", x.rate(5, 1), 60);
        x.go(999);
        Due.is("hour 999", x.rate(5, 1), 1059);
    }

    // ---- IMAGES 0, 1 keep NOW and what was SEEN; nothing else

    static void part4NoImageAtFirst() {
        NoonWalker x = Due.told(LAND);
        Due.is("back(0)", x.back(0), -2);
        Due.is("back(1)", x.back(1), -2);
    }

    static void part4EachImageIsItsOwn() {
        NoonWalker x = Due.told(LAND);
        x.keep(0);
        Due.is("back(1)", x.back(1), -2);
        x = Due.told(LAND);
        x.keep(1);
        Due.is("back(0)", x.back(0), -2);
        x.go(3);
        x.keep(0);
        Due.is("back(1)", x.back(1), 0);
        Due.is("back(0)", x.back(0), 3);
    }

    static void part4AnImageOfNothingSeen() {
        NoonWalker x = Due.told(LAND);
        x.keep(0);
        x.saw(0, 12, 0);
        x.go(7);
        Due.is("back(0)", x.back(0), 0);
        Due.is("count(3)", x.count(3), 0);
        Due.is("count(4)", x.count(4), 0);
        Due.is("so()", x.so(), 0);
    }

    static void part4AnImageOfAllThatCanBeSeen() {
        NoonWalker x = Due.told(LAND);
        for (int i = 0; i < 8; i++) x.saw(i % 3, 12 + i, i);
        int so = x.so();
        x.go(999);
        Due.is("keep(1)", x.keep(1), 999);
        x.forget();
        x.saw(2, 0, 0);
        Due.is("back(1)", x.back(1), 999);
        Due.is("count(3)", x.count(3), 8);
        Due.is("so()", x.so(), so);
        Due.is("saw", x.saw(0, 0, 0), -3);
        Due.is("go", x.go(1), -2);
        Due.is("stood(7, 0)", x.stood(7, 0), 0);
    }

    static void part4AnImageDoesNotChange() {
        NoonWalker x = Due.told(LAND);
        x.saw(0, 12, 0);
        x.keep(0);
        x.forget();
        x.saw(1, 1, 1);
        x.saw(1, 1, 1);
        x.go(9);
        x.back(0);
        x.forget();
        x.saw(2, 2, 2);
        x.go(9);
        Due.is("back(0)", x.back(0), 0);
        Due.is("count(3)", x.count(3), 1);
        Due.is("so()", x.so(), 1);
        Due.is("two()", x.two(), 0);
    }

    static void part4AnImageIsKeptOver() {
        NoonWalker x = Due.told(LAND);
        x.saw(0, 12, 0);
        x.saw(0, 12, 0);
        x.keep(0);
        x.forget();
        x.go(9);
        Due.is("keep(0)", x.keep(0), 9);
        x.go(1);
        Due.is("back(0)", x.back(0), 9);
        Due.is("count(3)", x.count(3), 0);
    }

    static void part4AnImageKeepsNothingElse() {
        NoonWalker x = Due.told(LAND);
        Due.type(x, "town 1;");
        x.keep(0);
        x.rate(0, 0);
        Due.type(x, "x");
        Due.is("back(0)", x.back(0), 0);
        Due.is("trace()", x.trace(), 1);
        Due.is("count(5)", x.count(5), 8);
        Due.is("land()", x.land(), -17);
    }

    // ---- Read anew: HOUR 0, nothing SEEN, IMAGES are gone; THE TRACE goes on, as behind back()

    private static NoonWalker used() {
        NoonWalker x = Due.told(LAND);
        x.saw(0, 12, 0);
        x.go(9);
        x.keep(0);
        x.keep(1);
        x.rate(3, 0);
        return x;
    }

    static void part4ReadAnewHour0() {
        NoonWalker x = used();
        Due.tell(x, LAND);
        Due.is("count(4)", x.count(4), 0);
    }

    static void part4ReadAnewNothingSeen() {
        NoonWalker x = used();
        Due.tell(x, LAND);
        Due.is("count(3)", x.count(3), 0);
        Due.is("forget()", x.forget(), 0);
    }

    static void part4ReadAnewImagesAreGone() {
        NoonWalker x = used();
        Due.tell(x, LAND);
        Due.is("back(0)", x.back(0), -2);
        Due.is("back(1)", x.back(1), -2);
        Due.is("count(4)", x.count(4), 0);
    }

    static void part4ReadAnewTheTraceGoesOn() {
        NoonWalker x = used();
        Due.tell(x, LAND);
        Due.is("trace()", x.trace(), 1011);
        x.rate(0, 0);
        Due.is("trace()", x.trace(), 1012);
    }

    static void part4BackTheTraceGoesOn() {
        NoonWalker x = used();
        x.back(0);
        Due.is("trace()", x.trace(), 1011);
        x.rate(0, 0);
        x.back(1);
        Due.is("trace()", x.trace(), 1012);
    }

    /** Every land is as if it were the first, however many have been told and whatever they had. */
    static void part4ReadAnewNothingOfOldLandsStays() {
        NoonWalker x = used();
        for (int i = 0; i < 3; i++) {
            Due.is("land(), most", Due.tell(x, "town99;".repeat(6) + "road0 1 30;".repeat(10) + "stop0 9;stop1 9;".repeat(5)), 26);
            Due.is("stood(0, 0), most", x.stood(0, 0), 296);
            Due.is("land(), two towns", Due.tell(x, "town 0;town 0;road 1 0 3;"), 3);
            Due.is("stood(0, 0), two towns", x.stood(0, 0), 4);
            Due.is("town(2, 0), two towns", x.town(2, 0), -1);
            Due.is("road(1, 0), two towns", x.road(1, 0), -1);
            Due.is("stop(0, 0), two towns", x.stop(0, 0), -1);
            Due.is("where(5, 0), two towns", x.where(5, 0), -9);
            Due.is("town(0, 1), two towns", x.town(0, 1), 1);
            Due.is("far(0, 1), two towns", x.far(0, 1), 3);
            Due.is("best(0, 1), two towns", x.best(0, 1), -9);
            Due.is("land(), no roads", Due.tell(x, "town 0;town 0;town 0;stop 2 0;"), 4);
            Due.is("far(0, 1), no roads", x.far(0, 1), -9);
            Due.is("stood(0, 0), no roads", x.stood(0, 0), 3);
            Due.is("clock(2, 999), no roads", x.clock(2, 999), 12);
        }
    }

    static void part4ReadBehindAFaultNothingOfItStays() {
        NoonWalker x = used();
        Due.is("land()", Due.tell(x, "town 1;town 2;road 0 1 5;stop 0 0;stop 1 0;!"), -53);
        x.clear();
        Due.is("land()", Due.tell(x, "town 3;stop 0 1;"), 2);
        int[] due = {1, 0, 1, 0, 0, 0};
        for (int what = 0; what < 6; what++) Due.is("count(" + what + ")", x.count(what), due[what]);
        Due.is("town(0, 0)", x.town(0, 0), 3);
        Due.is("stop(0, 2)", x.stop(0, 2), 0);
        Due.is("stood(0, 0)", x.stood(0, 0), 1);
    }

    static void part4ReadAnewWithoutItems() {
        NoonWalker x = used();
        Due.is("land()", x.land(), 0);
        for (int what = 0; what < 6; what++) Due.is("count(" + what + ")", x.count(what), 0);
        Due.is("trace()", x.trace(), 1011);
        Due.is("back(0)", x.back(0), -2);
    }

    static void part4ReadWithAFaultAllStays() {
        NoonWalker x = used();
        Due.is("land()", Due.tell(x, "town 1"), -16);
        Due.is("count(4)", x.count(4), 9);
        Due.is("count(3)", x.count(3), 1);
        Due.is("count(2)", x.count(2), 2);
        Due.is("back(0)", x.back(0), 9);
        Due.is("back(1)", x.back(1), 9);
    }

    public static void main(String[] args) throws ReflectiveOperationException {
        Due.all(Part4Test.class, "part4");
    }
}
