/** Part 3 of the document, posts, meetings, midnights, wages, the best way, what was seen, illness: each boundary it names. */
public final class Part3Test {
    private static final String TWO = "town 0;town 0;";
    private static final int ALL = 0xFFFFFF;

    /** He leaves 0 in hour 0 and stays in 1 from hour 30 on. */
    private static NoonWalker away() {
        return Due.told(TWO + "road 0 1 30;stop 0 0;stop 1 0;");
    }

    private static void row(NoonWalker x, int t, int worth, int... towns) {
        Due.is("best(" + t + ", -1)", x.best(t, -1), worth);
        for (int i = 0; i < 6; i++) Due.is("best(" + t + ", " + i + ")", x.best(t, i), i < towns.length ? towns[i] : -9);
    }

    // ---- EARLY: of 24 HOURS those in which a post comes by a CLOCK less than was the first TOWN's

    static void part3EarlyByAClockThatIsLess() {
        NoonWalker x = Due.told(TWO + "road 0 1 1;stop 0 0;");
        Due.is("sent at 13, there at 12", x.early(1, 0, 0), ALL);
        Due.is("sent at 12, there at 13", x.early(0, 1, 0), 0);
    }

    static void part3NotEarlyByTheSameClock() {
        NoonWalker x = Due.told(TWO + "town 0;road 2 0 5;road 2 1 5;stop 2 0;");
        Due.is("early(0, 1, 0)", x.early(0, 1, 0), 0);
        Due.is("early(1, 0, 0)", x.early(1, 0, 0), 0);
    }

    static void part3EarlyWhereTheClockGoesRound() {
        NoonWalker x = Due.told(TWO + "town 0;road 0 1 11;road 1 2 1;stop 0 0;");
        Due.is("sent at 12, there at 23", x.early(0, 1, 0), 0);
        Due.is("sent at 12, there at 0", x.early(0, 2, 0), ALL);
        Due.is("sent at 0, there at 12", x.early(2, 0, 0), 0);
        Due.is("sent at 23, there at 0", x.early(1, 2, 0), ALL);
    }

    /** He goes on meanwhile: sent at 15 + hour, there three hours later, when it is as much at 0 until he has come. */
    static void part3EarlyByTheClockAsItComes() {
        NoonWalker x = Due.told("town 0;" + TWO + "road 0 1 3;road 0 2 20;stop 0 0;stop 2 0;");
        Due.is("early(1, 0, 0)", x.early(1, 0, 0), 0b1111_1100_0000_0000_0000_0000);
        Due.is("early(1, 0, 17)", x.early(1, 0, 17), ALL - 1);
        Due.is("early(1, 0, 18)", x.early(1, 0, 18), ALL);
    }

    static void part3EarlyTakesTheShortestWay() {
        NoonWalker x = Due.told(TWO + "road 0 1 30;road 0 1 2;stop 0 0;stop 1 0;");
        // as far off 1 as it leaves as off 0 two hours later; by the long way it would be 14 o'clock at 0 for good
        Due.is("early(1, 0, 0)", x.early(1, 0, 0), 0);
        Due.is("early(0, 1, 998)", x.early(0, 1, 998), 3);
    }

    static void part3EarlyNeverWithoutAClock() {
        Due.is("nowhere", Due.told(TWO + "road 0 1 2;").early(0, 1, 0), 0);
        NoonWalker x = Due.told(TWO + "town 0;road 0 1 2;stop 2 0;");
        Due.is("he is on no way", x.early(0, 1, 0), 0);
        Due.is("he is on no way, back", x.early(1, 0, 0), 0);
    }

    static void part3EarlyNeverWithoutAWay() {
        NoonWalker x = Due.told(TWO + "stop 0 0;");
        Due.is("from where he is", x.early(0, 1, 0), 0);
        Due.is("to where he is", x.early(1, 0, 0), 0);
    }

    // ---- MEETS: the HOUR in which both are there (as the later one comes); the CLOCK there

    static void part3MeetsAsTheLaterOneComes() {
        NoonWalker x = Due.told(TWO + "town 0;road 0 2 3;road 1 2 5;stop 0 0;");
        Due.is("the first is later", x.meets(0, 11, 1, 8, 2, 0), 14);
        Due.is("the second is later", x.meets(0, 10, 1, 9, 2, 0), 14);
        Due.is("both at once", x.meets(0, 10, 1, 8, 2, 0), 13);
    }

    static void part3MeetsInATownOfOne() {
        NoonWalker x = Due.told(TWO + "road 0 1 3;stop 0 0;");
        Due.is("in the first one's", x.meets(0, 0, 1, 0, 0, 0), 3);
        Due.is("in the second one's", x.meets(0, 0, 1, 0, 1, 0), 3);
        Due.is("in both ones'", x.meets(1, 4, 1, 7, 1, 0), 7);
        Due.is("in both ones', clock", x.meets(1, 4, 1, 7, 1, 1), 15);
    }

    static void part3MeetsByTheShortestWay() {
        NoonWalker x = Due.told("town 0;" + TWO + "road 0 2 9;road 0 1 2;road 1 2 3;stop 0 0;");
        Due.is("meets(0, 0, 0, 0, 2, 0)", x.meets(0, 0, 0, 0, 2, 0), 5);
        Due.is("meets(0, 0, 0, 0, 2, 1)", x.meets(0, 0, 0, 0, 2, 1), 17);
    }

    static void part3MeetsWithTheClockOfThatHour() {
        Due.is("in hour 0", away().meets(0, 0, 0, 0, 0, 1), 12);
        Due.is("in hour 12", away().meets(0, 12, 0, 3, 0, 1), 0);
        Due.is("in hour 30", away().meets(0, 0, 1, 0, 1, 1), 12);
    }

    static void part3MeetsWithoutAWay() {
        NoonWalker x = Due.told(TWO + "town 0;road 0 1 3;stop 0 0;");
        for (int what = 0; what <= 1; what++) {
            Due.is("of the first", x.meets(2, 0, 0, 0, 1, what), -9);
            Due.is("of the second", x.meets(0, 0, 2, 0, 1, what), -9);
            Due.is("of both", x.meets(0, 0, 1, 0, 2, what), -9);
        }
    }

    static void part3MeetsWithoutAClock() {
        NoonWalker x = Due.told(TWO + "town 0;road 0 1 3;stop 2 0;");
        Due.is("the hour", x.meets(0, 0, 1, 0, 1, 0), 3);
        Due.is("the clock", x.meets(0, 0, 1, 0, 1, 1), -9);
    }

    // ---- MIDNIGHTS in HOURS a to b less 1: CLOCK 0 where it was not 0 in the HOUR ahead (HOUR 0: where it is 0)

    static void part3MidnightsFromA() {
        Due.is("from the midnight on", away().midnights(0, 12, 30), 1);
        Due.is("from behind it", away().midnights(0, 13, 30), 0);
    }

    static void part3MidnightsToBLess1() {
        Due.is("to the midnight", away().midnights(0, 0, 13), 1);
        Due.is("to the hour ahead of it", away().midnights(0, 0, 12), 0);
        Due.is("the midnight alone", away().midnights(0, 12, 13), 1);
    }

    static void part3MidnightsOfNoHours() {
        Due.is("at the midnight", away().midnights(0, 12, 12), 0);
        Due.is("in hour 0", away().midnights(0, 0, 0), 0);
        Due.is("in the last hour", away().midnights(0, 999, 999), 0);
    }

    static void part3MidnightThatGoesOnIsOne() {
        NoonWalker x = Due.told(TWO + "road 0 1 12;stop 0 0;stop 1 9;stop 0 0;");
        Due.is("as it begins", x.midnights(0, 12, 13), 1);
        Due.is("as it goes on", x.midnights(0, 13, 14), 0);
        Due.is("its end", x.midnights(0, 21, 22), 0);
        Due.is("from its second hour on", x.midnights(0, 13, 1000), 0);
        Due.is("all", x.midnights(0, 0, 1000), 1);
    }

    static void part3MidnightFromBothSides() {
        NoonWalker x = Due.told(TWO + "road 0 1 30;stop 0 0;stop 1 0;stop 0 0;");
        Due.is("from 23", x.midnights(0, 12, 13), 1);
        Due.is("from 1", x.midnights(0, 48, 49), 1);
        Due.is("all", x.midnights(0, 0, 1000), 2);
    }

    static void part3MidnightInHour0() {
        NoonWalker x = Due.told(TWO + "road 0 1 12;stop 0 0;");
        Due.is("in hour 0 it is 0", x.midnights(1, 0, 1), 1);
        Due.is("in hour 1 it still is", x.midnights(1, 1, 2), 0);
        Due.is("all", x.midnights(1, 0, 1000), 1);
        Due.is("behind hour 0", x.midnights(1, 1, 1000), 0);
        Due.is("in hour 0 it is 12", x.midnights(0, 0, 1), 0);
    }

    /** He comes 12 miles off in hour 1, so that nothing but hour 0 is ahead of it. */
    static void part3MidnightInHour1() {
        NoonWalker x = Due.told("town 0;" + TWO + "road 0 1 11;road 0 2 1;stop 0 0;stop 2 0;");
        Due.is("midnights(1, 1, 2)", x.midnights(1, 1, 2), 1);
        Due.is("midnights(1, 0, 1)", x.midnights(1, 0, 1), 0);
    }

    static void part3NoMidnightsWithoutAClock() {
        Due.is("nowhere", Due.told(TWO).midnights(0, 0, 1000), 0);
        Due.is("no way", Due.told(TWO + "stop 0 0;").midnights(1, 0, 1000), 0);
    }

    // ---- GAINS: W for each MIDNIGHT, less W for each 24 HOURS (whole ones)

    static void part3GainsByWholeDays() {
        int[][] due = {{0, 0}, {1, 0}, {23, 0}, {24, -5}, {25, -5}, {47, -5}, {48, -10}};
        for (int[] row : due) {
            Due.is("gains, " + row[0] + " hours", away().gains(1, 100, 100 + row[0], 5), row[1]);
        }
    }

    static void part3GainsByMidnights() {
        Due.is("a midnight, no day", away().gains(0, 12, 13, 5), 5);
        Due.is("a midnight and a day", away().gains(0, 0, 24, 5), 0);
        Due.is("a midnight and two days", away().gains(0, 0, 48, 5), -5);
        Due.is("no midnight in hour 12", away().gains(0, 0, 12, 5), 0);
    }

    static void part3GainsOfAllHours() {
        Due.is("41 days", Due.told(TWO).gains(0, 0, 1000, 99), -41 * 99);
        Due.is("41 days and a midnight", away().gains(0, 0, 1000, 99), -40 * 99);
    }

    // ---- BEST

    static void part3BestOfOneTownIsItsBid() {
        row(Due.told("town 0;"), 0, 0, 0);
        row(Due.told("town 99;"), 0, 99, 0);
        row(Due.told("town 5;town 99;"), 0, 5, 0);
    }

    static void part3BestLessTheWayThereAndBack() {
        row(Due.told("town 5;town 9;road 0 1 4;"), 0, 6, 0, 1);
        row(Due.told("town 5;town 9;road 0 1 5;"), 0, 5, 0);
    }

    static void part3BestOfSeveralIsTheRowThatEnds() {
        row(Due.told("town 5;town 8;road 0 1 4;"), 0, 5, 0);
        row(Due.told("town 5;town 8;town 8;road 0 1 4;road 0 2 4;"), 0, 5, 0);
    }

    static void part3BestOfSeveralIsTheFirstByTowns() {
        row(Due.told("town 9;town 9;town 9;road 0 1 1;road 1 2 1;road 2 0 1;"), 2, 24, 2, 0, 1);
        row(Due.told("town 0;town 9;town 9;road 0 1 5;road 0 2 5;road 1 2 30;"), 0, 0, 0);
        row(Due.told("town 0;town 9;town 9;road 0 1 4;road 0 2 4;road 1 2 9;"), 0, 2, 0, 1, 2);
        row(Due.told("town 0;town 12;town 12;road 0 1 1;road 0 2 1;road 1 2 12;"), 0, 20, 0, 1, 2);
        // a lower town comes first even in the row that has more towns: 0 1 2 is ahead of 0 2
        row(Due.told("town 5;town 0;town 9;road 0 1 1;road 1 2 1;"), 0, 10, 0, 1, 2);
        row(Due.told("town 0;town 2;town 9;road 0 1 2;road 1 2 2;road 0 2 4;"), 0, 3, 0, 1, 2);
        row(Due.told("town 0;town 0;town 9;road 0 1 2;road 1 2 2;road 0 2 4;"), 0, 1, 0, 1, 2);
    }

    static void part3BestHasNoTownTwice() {
        row(Due.told("town 99;town 99;road 0 1 1;"), 0, 196, 0, 1);
        row(Due.told("town 99;town 99;town 99;road 0 1 1;road 0 2 1;"), 0, 293, 0, 1, 2);
    }

    static void part3BestOfAllSixTowns() {
        String six = "town 99;".repeat(6) + "road 0 1 1;road 1 2 1;road 2 3 1;road 3 4 1;road 4 5 1;road 5 0 1;";
        row(Due.told(six), 0, 588, 0, 1, 2, 3, 4, 5);
        row(Due.told(six), 5, 588, 5, 0, 1, 2, 3, 4);
        row(Due.told("town 99;".repeat(6) + "road 0 1 30;road 1 2 30;road 2 3 30;road 3 4 30;road 4 5 30;"), 0, 294, 0, 1, 2, 3, 4, 5);
    }

    static void part3BestBeginsWithTheTown() {
        row(Due.told("town 0;town 99;town 99;road 1 2 1;road 0 1 30;"), 0, 136, 0, 1, 2);
        row(Due.told("town 0;town 99;town 99;road 1 2 1;road 0 1 30;"), 1, 196, 1, 2);
        row(Due.told("town 0;town 99;town 99;road 1 2 1;road 0 1 30;"), 2, 196, 2, 1);
    }

    static void part3BestWithoutAWay() {
        row(Due.told("town 1;town 99;town 2;town 99;road 0 2 1;road 1 3 1;"), 2, 2, 2);
        row(Due.told("town 1;town 99;town 4;town 99;road 0 2 1;road 1 3 1;"), 0, 3, 0, 2);
        row(Due.told("town 1;town 99;town 2;town 99;road 0 2 1;road 1 3 1;"), 3, 196, 3, 1);
    }

    // ---- SEEN (8 at most), SO, STOOD, TWO

    static void part3EightSeenAtMost() {
        NoonWalker x = away();
        for (int i = 1; i <= 8; i++) Due.is("saw", x.saw(0, 12, 0), i);
        Due.is("saw, the ninth", x.saw(0, 12, 0), -3);
        Due.is("count(3)", x.count(3), 8);
    }

    static void part3NothingSeen() {
        NoonWalker x = away();
        Due.is("count(3)", x.count(3), 0);
        Due.is("so()", x.so(), 0);
        Due.is("two()", x.two(), 0);
        Due.is("stood(0, 0)", x.stood(0, 0), 31);
        Due.is("stood(0, 1)", x.stood(0, 1), 0);
        Due.is("forget()", x.forget(), 0);
    }

    static void part3SoIsABitEach() {
        for (int wrong = -1; wrong < 8; wrong++) {
            NoonWalker x = away();
            for (int i = 0; i < 8; i++) x.saw(0, 12 + i + (i == wrong ? 1 : 0), i);
            Due.is("so(), not so: " + wrong, x.so(), wrong < 0 ? 255 : 255 - (1 << wrong));
        }
    }

    static void part3SoByTheClockOfThatHour() {
        NoonWalker x = away();
        x.saw(0, 23, 11);
        x.saw(0, 0, 12);
        x.saw(0, 0, 11);
        x.saw(1, 12, 999);
        x.saw(0, 18, 999);
        x.saw(0, 17, 29);
        x.saw(0, 18, 29);
        Due.is("so()", x.so(), 0b0111011);
    }

    static void part3NothingIsSoWithoutAClock() {
        NoonWalker x = Due.told(TWO + "road 0 1 2;");
        for (int c = 10; c < 17; c++) x.saw(0, c, 0);
        Due.is("so(), nowhere", x.so(), 0);
        x = Due.told(TWO + "stop 0 0;");
        for (int c = 12; c < 20; c++) x.saw(1, c, 0);
        Due.is("so(), no way", x.so(), 0);
    }

    static void part3StoodAsSeenInThatHourAlone() {
        NoonWalker x = away();
        x.saw(0, 12, 5);
        x.saw(0, 13, 6);
        Due.is("stood(5, 0), 0 or 24 miles off", x.stood(5, 0), 2);
        Due.is("stood(5, 1)", x.stood(5, 1), 0);
        Due.is("stood(6, 0), 1 or 25 miles off", x.stood(6, 0), 2);
        Due.is("stood(6, 1)", x.stood(6, 1), 101);
        Due.is("stood(4, 0)", x.stood(4, 0), 31);
        Due.is("stood(7, 0)", x.stood(7, 0), 31);
    }

    static void part3StoodAsAllThatWasSeen() {
        NoonWalker x = away();
        x.saw(0, 13, 5);
        x.saw(1, 17, 5);
        Due.is("1 from 0 and 29 from 1, or 25 and 5", x.stood(5, 0), 2);
        x.saw(1, 18, 5);
        Due.is("30 from 1 as well", x.stood(5, 0), 0);
        Due.is("the first of none", x.stood(5, 1), -9);
    }

    static void part3StoodTownsAheadOfRoads() {
        NoonWalker x = Due.told(TWO + "town 0;road 1 0 2;road 1 2 1;stop 0 0;");
        x.saw(1, 13, 0);
        Due.is("stood(0, 0)", x.stood(0, 0), 2);
        Due.is("stood(0, 1)", x.stood(0, 1), 2);
    }

    static void part3StoodByRoadsThenMiles() {
        NoonWalker x = Due.told("town 0;" + TWO + "road 0 1 9;road 0 2 4;stop 0 0;");
        x.saw(0, 16, 0);
        Due.is("4 from 0: town 2 is ahead", x.stood(0, 1), 2);
        x.forget();
        x.saw(0, 15, 0);
        Due.is("3 from 0: road 0 is ahead", x.stood(0, 1), 103);
        Due.is("3 from 0: on both", x.stood(0, 0), 2);
        x = Due.told(TWO + "road 0 1 9;road 0 1 9;");
        x.saw(0, 13, 0);
        x.saw(1, 20, 0);
        Due.is("as good on both roads", x.stood(0, 1), 101);
        x = Due.told(TWO + "road 0 1 5;road 0 1 30;");
        x.saw(0, 21, 0);
        Due.is("9 from 0 or 5 and 4: two miles of road 1", x.stood(0, 0), 2);
        Due.is("the lower one", x.stood(0, 1), 209);
    }

    static void part3StoodOnTheLastRoad() {
        NoonWalker x = Due.told("town 0;" + TWO + "road 0 1 1;".repeat(9) + "road 0 2 30;");
        x.saw(0, 17, 0);
        x.saw(1, 18, 0);
        Due.is("5 or 29 from 0", x.stood(0, 0), 2);
        Due.is("the first of these", x.stood(0, 1), 1005);
    }

    static void part3TwoWhereNoPlaceIs() {
        NoonWalker x = away();
        x.saw(0, 12, 5);
        x.saw(0, 13, 6);
        Due.is("in hours of their own", x.two(), 0);
        x.saw(0, 13, 5);
        Due.is("in one and the same hour", x.two(), 1);
    }

    static void part3TwoByTheFirstAndByTheLast() {
        NoonWalker x = away();
        x.saw(0, 11, 0);
        Due.is("23 miles from 0", x.two(), 0);
        x.forget();
        x = Due.told(TWO + "road 0 1 3;");
        x.saw(0, 16, 999);
        for (int i = 1; i < 8; i++) x.saw(0, 12, i);
        Due.is("by the first, in hour 999", x.two(), 1);
        x.forget();
        for (int i = 1; i < 8; i++) x.saw(0, 12, i);
        Due.is("by none", x.two(), 0);
        x.saw(0, 16, 0);
        Due.is("by the last, in hour 0", x.two(), 1);
    }

    static void part3TwoIsNotWhetherItIsSo() {
        NoonWalker x = away();
        x.saw(1, 12, 0);
        Due.is("so()", x.so(), 0);
        Due.is("two()", x.two(), 0);
    }

    // ---- NOW (0 at first), ILL for h HOURS (0 .. 99)

    static void part3NowIs0AtFirst() {
        Due.is("new", new NoonWalker().count(4), 0);
        Due.is("told", away().count(4), 0);
    }

    static void part3IllWhenHeComesLaterThanNow() {
        NoonWalker x = away();
        x.go(29);
        Due.is("an hour ahead", x.ill(1, 30), 1);
        Due.is("an hour ahead", x.ill(1, 31), 2);
        x.go(1);
        Due.is("as he comes", x.ill(1, 30), 2);
        x.go(1);
        Due.is("an hour behind", x.ill(1, 30), 2);
    }

    static void part3IllAtTheFirstStopIsNotLater() {
        Due.is("ill(99, 0)", away().ill(99, 0), 1);
    }

    static void part3IllForNoHours() {
        Due.is("ill(0, 29)", away().ill(0, 29), 1);
        Due.is("ill(0, 30)", away().ill(0, 30), 2);
    }

    static void part3IllFor99Hours() {
        Due.is("ill(99, 128)", away().ill(99, 128), 1);
        Due.is("ill(99, 129)", away().ill(99, 129), 2);
    }

    static void part3IllWithoutStops() {
        Due.is("ill(0, 999)", Due.told(TWO).ill(0, 999), 0);
        Due.is("ill(99, 0)", new NoonWalker().ill(99, 0), 0);
    }

    static void part3IllAtTheLastOfTenStops() {
        NoonWalker x = Due.told(TWO + "road 0 1 30;" + "stop 0 9;stop 1 9;".repeat(5));
        Due.is("ill(99, 449)", x.ill(99, 449), 9);
        Due.is("ill(99, 450)", x.ill(99, 450), 10);
        Due.is("ill(99, 999)", x.ill(99, 999), 10);
        x.go(351);
        Due.is("ill(99, 351), now 351", x.ill(99, 351), 10);
    }

    static void part3IllChangesNothing() {
        NoonWalker x = away();
        x.ill(99, 999);
        Due.is("stop(1, 2)", x.stop(1, 2), 30);
        Due.is("where(30, 0)", x.where(30, 0), 1);
        Due.is("ill(0, 30)", x.ill(0, 30), 2);
    }

    public static void main(String[] args) throws ReflectiveOperationException {
        Due.all(Part3Test.class, "part3");
    }
}
