/** Part 2 of the document, ways, places, where he is, clocks, light, pace: a test for each boundary that it names. */
public final class Part2Test {
    private static final String TWO = "town 0;town 0;";
    private static final String CHAIN =
        "town 0;".repeat(6) + "road 0 1 30;road 1 2 30;road 2 3 30;road 3 4 30;road 4 5 30;";

    /** He stands in town 0 for good; town 1 is so many miles off, over town 2 if one road is too short. */
    private static NoonWalker standing(int miles) {
        String roads = miles <= 30 ? "road 0 1 " + miles + ";" : "road 0 2 30;road 2 1 " + (miles - 30) + ";";
        return Due.told(TWO + "town 0;" + roads + "stop 0 0;");
    }

    /** He rests 2 hours, goes 3 miles, does not rest, goes back, rests an hour and stays. */
    private static NoonWalker thereAndBack() {
        return Due.told(TWO + "road 0 1 3;stop 0 2;stop 1 0;stop 0 1;");
    }

    private static void where(NoonWalker x, int hour, int... due) {
        for (int what = 0; what < 4; what++) Due.is("where(" + hour + ", " + what + ")", x.where(hour, what), due[what]);
    }

    // ---- FAR: by the shortest way; NONE

    static void part2FarOfATownItself() {
        NoonWalker x = Due.told(TWO + "road 0 1 3;");
        Due.is("far(0, 0)", x.far(0, 0), 0);
        Due.is("far(1, 1)", x.far(1, 1), 0);
    }

    static void part2FarByOneRoad() {
        Due.is("the shortest road", Due.told(TWO + "road 0 1 1;").far(1, 0), 1);
        Due.is("the longest road", Due.told(TWO + "road 0 1 30;").far(1, 0), 30);
    }

    static void part2FarByTheShortestOfSeveralRoads() {
        NoonWalker x = Due.told(TWO + "road 0 1 9;road 1 0 4;road 0 1 7;");
        Due.is("far(0, 1)", x.far(0, 1), 4);
        Due.is("far(1, 0)", x.far(1, 0), 4);
    }

    static void part2FarByMoreRoadsWhereTheyAreShorter() {
        String three = "town 0;" + TWO;
        Due.is("a mile shorter", Due.told(three + "road 0 2 10;road 0 1 4;road 1 2 5;").far(0, 2), 9);
        Due.is("as long", Due.told(three + "road 0 2 10;road 0 1 4;road 1 2 6;").far(0, 2), 10);
        Due.is("a mile longer", Due.told(three + "road 0 2 10;road 0 1 4;road 1 2 7;").far(0, 2), 10);
    }

    static void part2FarOverAllTowns() {
        NoonWalker x = Due.told(CHAIN);
        Due.is("far(0, 5)", x.far(0, 5), 150);
        Due.is("far(5, 0)", x.far(5, 0), 150);
        x = Due.told("town 0;".repeat(6) + "road 5 0 30;road 3 5 30;road 1 3 30;road 4 1 30;road 2 4 30;");
        Due.is("far(0, 2), told from behind", x.far(0, 2), 150);
        x = Due.told("town 0;".repeat(6) + "road 0 5 30;road 0 1 5;road 1 2 5;road 2 3 5;road 3 4 5;road 4 5 5;");
        Due.is("far(0, 5), five roads shorter than one", x.far(0, 5), 25);
    }

    static void part2FarWithoutAWay() {
        NoonWalker x = Due.told("town 0;town 0;town 0;town 0;road 0 1 1;road 2 3 1;");
        Due.is("far(0, 2)", x.far(0, 2), -9);
        Due.is("far(3, 1)", x.far(3, 1), -9);
        Due.is("far(2, 3)", x.far(2, 3), 1);
    }

    // ---- PLACES: TOWNS, and on each ROAD each MILE between its ends (1 to M less 1, from A)

    static void part2NoPlaces() {
        Due.is("stood(0, 0)", new NoonWalker().stood(0, 0), 0);
        Due.is("stood(0, 1)", new NoonWalker().stood(0, 1), -9);
    }

    static void part2PlacesOfARoad() {
        Due.is("no road", Due.told(TWO).stood(0, 0), 2);
        Due.is("1 mile", Due.told(TWO + "road 0 1 1;").stood(0, 0), 2);
        Due.is("2 miles", Due.told(TWO + "road 0 1 2;").stood(0, 0), 3);
        Due.is("30 miles", Due.told(TWO + "road 0 1 30;").stood(0, 0), 31);
        Due.is("both roads", Due.told(TWO + "road 0 1 30;road 1 0 30;").stood(0, 0), 60);
    }

    static void part2MostPlaces() {
        Due.is("stood(0, 0)", Due.told("town 0;".repeat(6) + "road 0 1 30;".repeat(10)).stood(0, 0), 296);
    }

    static void part2MilesAreToldFromA() {
        NoonWalker x = Due.told(TWO + "road 1 0 30;");
        x.saw(1, 13, 0);
        Due.is("a mile from A", x.stood(0, 1), 101);
        x.saw(1, 14, 1);
        Due.is("two miles from A, or 26", x.stood(1, 0), 2);
        x.saw(0, 13, 2);
        Due.is("a mile from B, or 25", x.stood(2, 1), 105);
        x.saw(1, 17, 2);
        Due.is("29 miles from A, or 5", x.stood(2, 0), 2);
    }

    static void part2APlaceIsFarByTheShorterEnd() {
        NoonWalker x = Due.told(TWO + "road 0 1 30;road 0 1 1;stop 0 0;stop 1 0;");
        int[] from0 = {0, 1, 2, 14, 15, 15, 14, 3, 2, 1};
        int[] from1 = {1, 2, 3, 15, 15, 14, 13, 2, 1, 0};
        int[] hours = {0, 1, 2, 14, 15, 16, 17, 28, 29, 30};
        for (int i = 0; i < hours.length; i++) {
            Due.is("off(0, " + hours[i] + ")", x.off(0, hours[i]), from0[i]);
            Due.is("off(1, " + hours[i] + ")", x.off(1, hours[i]), from1[i]);
        }
    }

    static void part2APlaceOnNoWay() {
        NoonWalker x = Due.told("town 0;" + TWO + "road 0 1 3;stop 0 0;stop 1 0;");
        for (int hour = 0; hour < 5; hour++) Due.is("off(2, " + hour + ")", x.off(2, hour), -9);
    }

    // ---- In an HOUR (0 .. 999) he is at a STOP, on the ROAD, nowhere

    static void part2FromTheHourInWhichHeComes() {
        where(thereAndBack(), 0, 0, -9, 0, 1);
        where(thereAndBack(), 4, -9, 0, 2, 1);
        where(thereAndBack(), 5, 1, -9, 0, 2);
    }

    static void part2RestHoursLaterThisOneToo() {
        where(thereAndBack(), 1, 0, -9, 0, 1);
        where(thereAndBack(), 2, 0, -9, 0, 1);
        where(thereAndBack(), 3, -9, 0, 1, 1);
    }

    static void part2WithoutRestForOneHour() {
        where(thereAndBack(), 5, 1, -9, 0, 2);
        where(thereAndBack(), 6, -9, 0, 1, 2);
    }

    static void part2GreatestRest() {
        NoonWalker x = Due.told(TWO + "road 0 1 3;stop 0 9;stop 1 9;stop 0 0;");
        where(x, 9, 0, -9, 0, 1);
        where(x, 10, -9, 0, 1, 1);
        where(x, 12, 1, -9, 0, 2);
        where(x, 21, 1, -9, 0, 2);
        where(x, 22, -9, 0, 1, 2);
    }

    static void part2BehindTheLastStopStillThere() {
        NoonWalker x = thereAndBack();
        where(x, 8, 0, -9, 0, 3);
        where(x, 9, 0, -9, 0, 3);
        where(x, 10, 0, -9, 0, 3);
        where(x, 999, 0, -9, 0, 3);
    }

    static void part2OneStopAlone() {
        NoonWalker x = Due.told(TWO + "road 0 1 3;stop 1 0;");
        where(x, 0, 1, -9, 0, 1);
        where(x, 1, 1, -9, 0, 1);
        where(x, 999, 1, -9, 0, 1);
    }

    static void part2OneMileOnInTheFirstHour() {
        NoonWalker x = thereAndBack();
        where(x, 3, -9, 0, 1, 1);
        where(x, 4, -9, 0, 2, 1);
        where(x, 6, -9, 0, 1, 2);
        where(x, 7, -9, 0, 2, 2);
    }

    static void part2MilesOnAreFromWhereHeLeft() {
        NoonWalker x = Due.told(TWO + "road 0 1 30;stop 1 0;stop 0 0;");
        where(x, 1, -9, 0, 1, 1);
        where(x, 29, -9, 0, 29, 1);
        where(x, 30, 0, -9, 0, 2);
        Due.is("off(1, 1)", x.off(1, 1), 1);
        Due.is("off(0, 1)", x.off(0, 1), 29);
        Due.is("off(0, 29)", x.off(0, 29), 1);
    }

    static void part2RoadOfOneMileHasNoHourOnIt() {
        NoonWalker x = Due.told(TWO + "road 0 1 1;stop 0 0;stop 1 0;");
        where(x, 0, 0, -9, 0, 1);
        where(x, 1, 1, -9, 0, 2);
    }

    static void part2RoadOfTwoMilesHasOneHourOnIt() {
        NoonWalker x = Due.told(TWO + "road 0 1 2;stop 0 0;stop 1 0;");
        where(x, 1, -9, 0, 1, 1);
        where(x, 2, 1, -9, 0, 2);
    }

    static void part2WithoutStopsNowhere() {
        NoonWalker x = Due.told(TWO + "road 0 1 2;");
        where(x, 0, -9, -9, 0, 0);
        where(x, 999, -9, -9, 0, 0);
        where(new NoonWalker(), 0, -9, -9, 0, 0);
    }

    static void part2TheLastRoadAndTown() {
        NoonWalker x = Due.told("town 0;".repeat(6) + "road 0 1 9;".repeat(9) + "road 4 5 3;stop 4 0;stop 5 0;");
        where(x, 2, -9, 9, 2, 1);
        where(x, 3, 5, -9, 0, 2);
    }

    // ---- CLOCK: 12 and how FAR he is, left over by 24; NONE

    static void part2NoonWhereHeIs() {
        NoonWalker x = thereAndBack();
        Due.is("clock(0, 0)", x.clock(0, 0), 12);
        Due.is("clock(1, 5)", x.clock(1, 5), 12);
        Due.is("clock(0, 999)", x.clock(0, 999), 12);
    }

    static void part2ClockGoesRoundBy24() {
        int[][] due = {{1, 13}, {11, 23}, {12, 0}, {13, 1}, {23, 11}, {24, 12}, {25, 13}, {30, 18}, {35, 23}, {36, 0},
            {37, 1}, {47, 11}, {48, 12}, {59, 23}, {60, 0}};
        for (int[] row : due) Due.is("clock, " + row[0] + " miles off", standing(row[0]).clock(1, 0), row[1]);
    }

    static void part2ClockOfTheFarthestTown() {
        NoonWalker x = Due.told(CHAIN + "stop 0 0;");
        Due.is("clock(5, 0)", x.clock(5, 0), 18);
        Due.is("clock(4, 0)", x.clock(4, 0), 12);
        Due.is("clock(5, 999)", x.clock(5, 999), 18);
    }

    static void part2ClockGoesRoundAsHeWalks() {
        NoonWalker x = Due.told(TWO + "road 0 1 30;stop 0 0;stop 1 0;");
        Due.is("clock(0, 11)", x.clock(0, 11), 23);
        Due.is("clock(0, 12)", x.clock(0, 12), 0);
        Due.is("clock(1, 18)", x.clock(1, 18), 0);
        Due.is("clock(1, 19)", x.clock(1, 19), 23);
    }

    static void part2NoClockWhereHeIsNowhere() {
        NoonWalker x = Due.told(TWO + "road 0 1 2;");
        Due.is("clock(0, 0)", x.clock(0, 0), -9);
        Due.is("clock(1, 999)", x.clock(1, 999), -9);
    }

    static void part2NoClockWithoutAWay() {
        NoonWalker x = Due.told(TWO + "town 0;road 0 1 2;stop 0 0;stop 1 0;");
        Due.is("clock(2, 0)", x.clock(2, 0), -9);
        Due.is("clock(2, 1)", x.clock(2, 1), -9);
        Due.is("clock(2, 999)", x.clock(2, 999), -9);
    }

    // ---- LIGHT: CLOCK 6 .. 17

    static void part2LightFrom6To17() {
        int[][] due = {{5, 17, 1}, {6, 18, 0}, {11, 23, 0}, {12, 0, 0}, {17, 5, 0}, {18, 6, 1}, {24, 12, 1}, {29, 17, 1}, {30, 18, 0},
            {41, 5, 0}, {42, 6, 1}, {53, 17, 1}, {54, 18, 0}};
        for (int[] row : due) {
            NoonWalker x = standing(row[0]);
            Due.is("clock, " + row[0] + " miles off", x.clock(1, 999), row[1]);
            Due.is("light, " + row[0] + " miles off", x.light(1, 999), row[2]);
            Due.is("light from hour 0, " + row[0] + " miles off", x.light(1, 0), row[2] * 0xFFFFFF);
        }
    }

    static void part2NoLightWithoutAClock() {
        Due.is("nowhere", Due.told(TWO).light(0, 0), 0);
        Due.is("no way", Due.told(TWO + "stop 0 0;").light(1, 0), 0);
    }

    // ---- PACE: by whole days -12 .. 11; NONE

    static void part2PaceGoesRound() {
        NoonWalker x = Due.told(TWO + "road 0 1 30;stop 0 0;stop 1 0;");
        Due.is("pace(0, 11), from 23 to 0", x.pace(0, 11), 1);
        Due.is("pace(1, 18), from 0 to 23", x.pace(1, 18), -1);
    }

    static void part2PaceOfAMileAnHour() {
        NoonWalker x = Due.told(TWO + "road 0 1 30;stop 0 1;stop 1 0;");
        Due.is("pace(0, 0), he rests", x.pace(0, 0), 0);
        Due.is("pace(0, 1), he goes away", x.pace(0, 1), 1);
        Due.is("pace(1, 1), he comes nearer", x.pace(1, 1), -1);
        Due.is("pace(0, 30), his last mile", x.pace(0, 30), 1);
        Due.is("pace(1, 30), his last mile", x.pace(1, 30), -1);
        Due.is("pace(0, 31), he has come", x.pace(0, 31), 0);
    }

    static void part2PaceWhereTheOtherEndBecomesTheShorterOne() {
        NoonWalker x = Due.told(TWO + "road 0 1 30;road 0 1 1;stop 0 0;stop 1 0;");
        Due.is("pace(0, 14)", x.pace(0, 14), 1);
        Due.is("pace(0, 15)", x.pace(0, 15), 0);
        Due.is("pace(0, 16)", x.pace(0, 16), -1);
        Due.is("pace(1, 13)", x.pace(1, 13), 1);
        Due.is("pace(1, 14)", x.pace(1, 14), 0);
        Due.is("pace(1, 15)", x.pace(1, 15), -1);
    }

    static void part2NoPaceWithoutAClock() {
        Due.is("nowhere", Due.told(TWO).pace(0, 0), -9);
        Due.is("no way", Due.told(TWO + "stop 0 0;").pace(1, 0), -9);
        Due.is("no way, last hour", Due.told(TWO + "stop 0 0;").pace(1, 998), -9);
    }

    public static void main(String[] args) throws ReflectiveOperationException {
        Due.all(Part2Test.class, "part2");
    }
}
