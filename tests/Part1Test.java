/** Part 1 of the document, towns, roads, stops, the text and its faults: a test for each boundary that it names. */
public final class Part1Test {
    private static final String TWO = "town 0;town 0;";
    private static final String SIX = "town 1;".repeat(6);
    private static final String TEN_ROADS = "road 0 1 1;".repeat(10);
    private static final String TEN_STOPS = "stop 0 0;stop 1 0;".repeat(5);

    private static String padded(String text) {
        return text + " ".repeat(300 - text.length());
    }

    // ---- TOWNS 0 .. (6 at most) BID (0 .. 99)

    static void part1NoTowns() {
        NoonWalker x = new NoonWalker();
        Due.is("count(0)", x.count(0), 0);
        Due.is("town(0, 0)", x.town(0, 0), -1);
        Due.fault("stop 0 0;", 5);
        Due.fault("road 0 1 1;", 5);
    }

    static void part1TownsAreNumberedFrom0() {
        NoonWalker x = Due.told("town 11;town 22;town 33;");
        Due.is("town(0, 0)", x.town(0, 0), 11);
        Due.is("town(1, 0)", x.town(1, 0), 22);
        Due.is("town(2, 0)", x.town(2, 0), 33);
        Due.is("town(3, 0)", x.town(3, 0), -1);
    }

    static void part1SixTownsStand() {
        Due.good(SIX, 6);
        NoonWalker x = Due.told("town 0;town 1;town 2;town 3;town 4;town 99;");
        Due.is("count(0)", x.count(0), 6);
        Due.is("town(5, 0)", x.town(5, 0), 99);
    }

    static void part1SeventhTownIsAFault() {
        Due.fault(SIX + "town 1;", 42);
        Due.fault(SIX + "  town 1;", 44);
        Due.fault(SIX + "road 0 1 1;stop 0 0;town 1;", 62);
    }

    /** The word is what can't stand there, so no fault behind it counts. */
    static void part1SeventhTownIsAheadOfWhatIsBehindIt() {
        Due.fault(SIX + "town", 42);
        Due.fault(SIX + "town 100;", 42);
        Due.fault(SIX + "town ;", 42);
    }

    static void part1LeastBid() {
        Due.is("town(0, 0)", Due.told("town 0;").town(0, 0), 0);
    }

    static void part1GreatestBid() {
        Due.is("town(0, 0)", Due.told("town 99;").town(0, 0), 99);
        Due.is("town(0, 0)", Due.told("town 98;").town(0, 0), 98);
    }

    static void part1BidOf100IsAFault() {
        Due.fault("town 100;", 5);
        Due.fault("town 999;", 5);
    }

    // ---- ROADS 0 .. (10 at most), MILES (1 .. 30), both ways

    static void part1NoRoads() {
        NoonWalker x = Due.told(TWO);
        Due.is("count(1)", x.count(1), 0);
        Due.is("road(0, 0)", x.road(0, 0), -1);
        Due.is("town(0, 1)", x.town(0, 1), 0);
        Due.is("far(0, 1)", x.far(0, 1), -9);
        Due.is("far(1, 1)", x.far(1, 1), 0);
    }

    static void part1RoadsAreNumberedFrom0() {
        NoonWalker x = Due.told(TWO + "road 0 1 11;road 1 0 22;");
        Due.is("road(0, 2)", x.road(0, 2), 11);
        Due.is("road(1, 2)", x.road(1, 2), 22);
        Due.is("road(2, 2)", x.road(2, 2), -1);
    }

    static void part1TenRoadsStand() {
        Due.good(TWO + TEN_ROADS, 12);
        NoonWalker x = Due.told(TWO + "road 0 1 1;".repeat(9) + "road 1 0 30;");
        Due.is("count(1)", x.count(1), 10);
        Due.is("road(9, 0)", x.road(9, 0), 1);
        Due.is("road(9, 1)", x.road(9, 1), 0);
        Due.is("road(9, 2)", x.road(9, 2), 30);
    }

    static void part1EleventhRoadIsAFault() {
        Due.fault(TWO + TEN_ROADS + "road 0 1 1;", 124);
        Due.fault(TWO + TEN_ROADS + "town 0; road 0 1 1;", 132);
    }

    static void part1EleventhRoadIsAheadOfWhatIsBehindIt() {
        Due.fault(TWO + TEN_ROADS + "road", 124);
        Due.fault(TWO + TEN_ROADS + "road 9 9 99;", 124);
    }

    static void part1LeastMiles() {
        NoonWalker x = Due.told(TWO + "road 0 1 1;");
        Due.is("road(0, 2)", x.road(0, 2), 1);
        Due.is("far(0, 1)", x.far(0, 1), 1);
    }

    static void part1GreatestMiles() {
        NoonWalker x = Due.told(TWO + "road 0 1 30;");
        Due.is("road(0, 2)", x.road(0, 2), 30);
        Due.is("far(0, 1)", x.far(0, 1), 30);
    }

    static void part1NoMilesAreAFault() {
        Due.fault(TWO + "road 0 1 0;", 23);
    }

    static void part1MilesOf31AreAFault() {
        Due.fault(TWO + "road 0 1 31;", 23);
        Due.fault(TWO + "road 0 1 99;", 23);
        Due.fault(TWO + "road 0 1 100;", 23);
    }

    static void part1RoadsLeadBothWays() {
        NoonWalker x = Due.told(TWO + "road 1 0 7;stop 0 0;stop 1 0;stop 0 0;");
        Due.is("far(0, 1)", x.far(0, 1), 7);
        Due.is("far(1, 0)", x.far(1, 0), 7);
        Due.is("stop(1, 2)", x.stop(1, 2), 7);
        Due.is("stop(2, 2)", x.stop(2, 2), 14);
        Due.is("off(1, 2), against A to B", x.off(1, 2), 5);
        Due.is("off(1, 9), from A to B", x.off(1, 9), 2);
    }

    // ---- STOPS (10 at most), REST (0 .. 9), the first ROAD between both, a MILE an HOUR, HOUR 0

    static void part1NoStops() {
        NoonWalker x = Due.told(TWO + "road 0 1 1;");
        Due.is("count(2)", x.count(2), 0);
        Due.is("stop(0, 0)", x.stop(0, 0), -1);
        Due.is("town(0, 2)", x.town(0, 2), 0);
    }

    static void part1TenStopsStand() {
        Due.good(TWO + "road 0 1 1;" + TEN_STOPS, 13);
        NoonWalker x = Due.told(TWO + "road 0 1 30;" + "stop 0 9;stop 1 9;".repeat(5));
        Due.is("count(2)", x.count(2), 10);
        Due.is("stop(9, 0)", x.stop(9, 0), 1);
        Due.is("stop(9, 1)", x.stop(9, 1), 9);
        Due.is("stop(9, 2)", x.stop(9, 2), 351);
        Due.is("stop(9, 3)", x.stop(9, 3), 360);
        Due.is("town(0, 2)", x.town(0, 2), 5);
    }

    static void part1EleventhStopIsAFault() {
        Due.fault(TWO + "road 0 1 1;" + TEN_STOPS + "stop 0 0;", 115);
        Due.fault(TWO + "road 0 1 1;" + TEN_STOPS + "road 0 1 1; stop 0 0;", 127);
    }

    static void part1EleventhStopIsAheadOfWhatIsBehindIt() {
        Due.fault(TWO + "road 0 1 1;" + TEN_STOPS + "stop", 115);
        Due.fault(TWO + "road 0 1 1;" + TEN_STOPS + "stop 9 99;", 115);
    }

    static void part1LeastRest() {
        NoonWalker x = Due.told(TWO + "road 0 1 4;stop 0 0;stop 1 0;");
        Due.is("stop(0, 1)", x.stop(0, 1), 0);
        Due.is("stop(0, 3)", x.stop(0, 3), 0);
        Due.is("stop(1, 2)", x.stop(1, 2), 4);
    }

    static void part1GreatestRest() {
        NoonWalker x = Due.told(TWO + "road 0 1 4;stop 0 9;stop 1 9;");
        Due.is("stop(0, 1)", x.stop(0, 1), 9);
        Due.is("stop(0, 3)", x.stop(0, 3), 9);
        Due.is("stop(1, 2)", x.stop(1, 2), 13);
        Due.is("stop(1, 3)", x.stop(1, 3), 22);
    }

    static void part1RestOf10IsAFault() {
        Due.fault(TWO + "stop 0 10;", 21);
        Due.fault(TWO + "stop 0 99;", 21);
        Due.fault(TWO + "stop 0 100;", 21);
    }

    static void part1ByTheFirstRoadThatWasTold() {
        NoonWalker x = Due.told("town 0;town 0;town 0;road 0 2 1;road 0 1 9;road 1 0 3;stop 0 0;stop 1 0;stop 0 0;");
        Due.is("stop(1, 2)", x.stop(1, 2), 9);
        Due.is("stop(2, 2)", x.stop(2, 2), 18);
        Due.is("where(1, 1)", x.where(1, 1), 1);
        Due.is("where(10, 1)", x.where(10, 1), 1);
        x = Due.told(TWO + "road 1 0 3;road 0 1 2;stop 0 0;stop 1 0;stop 0 0;");
        Due.is("stop(1, 2), told from the other end", x.stop(1, 2), 3);
        Due.is("stop(2, 2), told from the other end", x.stop(2, 2), 6);
    }

    static void part1AMileAnHour() {
        NoonWalker x = Due.told(TWO + "road 0 1 1;stop 0 0;stop 1 0;stop 0 2;stop 1 0;");
        Due.is("stop(1, 2)", x.stop(1, 2), 1);
        Due.is("stop(2, 2)", x.stop(2, 2), 2);
        Due.is("stop(3, 2)", x.stop(3, 2), 5);
        x = Due.told(TWO + "road 0 1 30;stop 0 0;stop 1 0;");
        Due.is("stop(1, 2)", x.stop(1, 2), 30);
    }

    static void part1TheFirstStopIsInHour0() {
        NoonWalker x = Due.told(TWO + "road 0 1 30;stop 1 9;stop 0 9;");
        Due.is("stop(0, 2)", x.stop(0, 2), 0);
        Due.is("where(0, 0)", x.where(0, 0), 1);
        Due.is("where(0, 3)", x.where(0, 3), 1);
    }

    static void part1FullLandInAFullText() {
        String all = "town99;".repeat(6) + "road0 1 30;".repeat(10) + "stop0 9;stop1 9;".repeat(5);
        NoonWalker x = new NoonWalker();
        Due.is("type", Due.type(x, padded(all)), 300);
        Due.is("land()", x.land(), 26);
        Due.is("count(0)", x.count(0), 6);
        Due.is("count(1)", x.count(1), 10);
        Due.is("count(2)", x.count(2), 10);
        Due.is("count(5)", x.count(5), 0);
        Due.is("town(5, 0)", x.town(5, 0), 99);
        Due.is("town(1, 1)", x.town(1, 1), 10);
        Due.is("town(1, 2)", x.town(1, 2), 5);
        Due.is("stop(9, 3)", x.stop(9, 3), 360);
        Due.is("stood(0, 0)", x.stood(0, 0), 6 + 10 * 29);
    }

    // ---- a text (300 bytes at most), blanks

    static void part1TextOf300BytesIsRead() {
        NoonWalker x = new NoonWalker();
        Due.is("type", Due.type(x, " ".repeat(293) + "town 8;"), 300);
        Due.is("land()", x.land(), 1);
        Due.is("town(0, 0)", x.town(0, 0), 8);
    }

    static void part1EmptyTextHasNoItems() {
        Due.good("", 0);
        NoonWalker x = Due.told(TWO);
        Due.is("land()", x.land(), 0);
        Due.is("count(0)", x.count(0), 0);
    }

    static void part1BlanksAloneAreNoItems() {
        Due.good(" ", 0);
        Due.good(" ".repeat(300), 0);
    }

    static void part1BlanksAheadOfTokens() {
        Due.good("   town 1;", 1);
        Due.good(" ".repeat(293) + "town 1;", 1);
    }

    static void part1BlanksBetweenTokens() {
        Due.good("town   1   ;   town  1 ;  road   0   1   30   ;   stop   0   9   ;", 4);
        Due.good("town" + " ".repeat(294) + "1;", 1);
    }

    static void part1BlanksBehindTokens() {
        Due.good("town 1; ", 1);
        Due.good(padded("town 1;"), 1);
    }

    static void part1NoBlanksWhereNoneAreNeeded() {
        Due.good("town5;town6;road0 1 2;stop0 3;stop1 0;", 5);
    }

    static void part1BlanksNeededBetweenRowsOfLetters() {
        Due.fault("towntown 1;", 0);
        Due.fault("town 1;stoproad", 7);
    }

    static void part1BlanksNeededBetweenNumbers() {
        Due.fault(TWO + "road 0 11;", 21);
        Due.fault(TWO + "stop 00;", 19);
        Due.fault(TWO + "stop 0 1;road 0 130;", 30);
    }

    static void part1OnlyByte32IsABlank() {
        for (int sign : new int[] {0, 9, 10, 11, 12, 13, 31, 33, 127, 160, 255}) {
            Due.fault((char) sign + "town 1;", 0);
            Due.fault("town" + (char) sign + "1;", 4);
            Due.fault("town 1" + (char) sign + ";", 6);
            Due.fault("town 1;" + (char) sign, 7);
        }
    }

    static void part1ABlankCutsAWordOrANumber() {
        Due.fault("to wn 1;", 0);
        Due.fault("town 1 2;", 7);
    }

    // ---- ITEMS (none, too), each ended by ;

    static void part1NoItemIsEmpty() {
        Due.fault(";", 0);
        Due.fault("  ;", 2);
        Due.fault("town 1;;", 7);
        Due.fault("town 1; ;town 1;", 8);
    }

    static void part1EachItemIsEnded() {
        Due.fault("town 1 town 1;", 7);
        Due.fault(TWO + "road 0 1 1 stop 0 0;", 25);
        Due.fault(TWO + "stop 0 0 stop", 23);
        Due.fault("town 1", 6);
        Due.fault(TWO + "road 0 1 1", 24);
        Due.fault(TWO + "stop 0 0", 22);
    }

    static void part1NoItemHasMore() {
        Due.fault("town 1 1;", 7);
        Due.fault(TWO + "road 0 1 1 1;", 25);
        Due.fault(TWO + "stop 0 0 0;", 23);
    }

    static void part1NoItemHasLess() {
        Due.fault("town;", 4);
        Due.fault(TWO + "road;", 18);
        Due.fault(TWO + "road 0;", 20);
        Due.fault(TWO + "road 0 1;", 22);
        Due.fault(TWO + "stop;", 18);
        Due.fault(TWO + "stop 0;", 20);
    }

    static void part1AnItemBeginsWithItsWord() {
        Due.fault("1 town;", 0);
        Due.fault("0;", 0);
        Due.fault("town 1;99;", 7);
    }

    static void part1AWordCanNotBeANumber() {
        Due.fault("town stop;", 5);
        Due.fault(TWO + "road town", 19);
        Due.fault(TWO + "road 0 road", 21);
        Due.fault(TWO + "road 0 1 stop", 23);
        Due.fault(TWO + "stop road", 19);
        Due.fault(TWO + "stop 0 town", 21);
    }

    /** No kind of item has to come ahead of another one, as long as the towns and roads that an item needs were told. */
    static void part1ItemsInAnyOrder() {
        String ends = "town 21;town 22;town 23;town 24;";
        NoonWalker x = Due.told(TWO + TEN_ROADS + TEN_STOPS + ends);
        Due.is("count(0), towns last", x.count(0), 6);
        Due.is("town(2, 0), towns last", x.town(2, 0), 21);
        Due.is("town(5, 0), towns last", x.town(5, 0), 24);
        Due.fault(TWO + TEN_ROADS + TEN_STOPS + ends + "town 1;", 246);
        x = Due.told(TWO + "road 0 1 1;" + TEN_STOPS + "road 1 0 2;road 0 1 3;");
        Due.is("count(1), roads last", x.count(1), 3);
        Due.is("road(1, 2), roads last", x.road(1, 2), 2);
        Due.is("road(2, 2), roads last", x.road(2, 2), 3);
        Due.is("town(0, 1), roads last", x.town(0, 1), 3);
        x = Due.told(TWO + "stop 0 9;" + TEN_ROADS + ends + "stop 1 0;");
        Due.is("count(2), stops last", x.count(2), 2);
        Due.is("stop(1, 2), stops last", x.stop(1, 2), 10);
    }

    // ---- road A B M: two TOWNS that were told, not one and the same

    static void part1RoadFromATownThatWasTold() {
        Due.good("town 0;town 0;town 0;road 2 1 1;", 4);
        Due.fault(TWO + "road 2 1 1;", 19);
        Due.fault(TWO + "road 99 1 1;", 19);
        Due.fault(TWO + "road 2 1 1;town 0;", 19);
    }

    static void part1RoadToATownThatWasTold() {
        Due.good("town 0;town 0;town 0;road 1 2 1;", 4);
        Due.fault(TWO + "road 1 2 1;", 21);
        Due.fault(TWO + "road 1 99 1;", 21);
        Due.fault(TWO + "road 1 2 1;town 0;", 21);
    }

    static void part1RoadWithoutTowns() {
        Due.fault("road 0 0 1;town 0;", 5);
        Due.fault("town 0;road 0 1 1;town 0;", 14);
    }

    static void part1RoadToOneAndTheSame() {
        Due.fault(TWO + "road 0 0 1;", 21);
        Due.fault(TWO + "road 1 1 1;", 21);
        Due.fault("town 0;road 0 0 1;", 14);
    }

    static void part1RoadsBetweenTheSameTowns() {
        Due.good(TWO + "road 0 1 1;road 0 1 1;road 1 0 1;", 5);
    }

    // ---- stop T R: a TOWN; there is a ROAD from the last STOP's to it

    static void part1StopInATownThatWasTold() {
        Due.good(TWO + "stop 1 0;", 3);
        Due.fault(TWO + "stop 2 0;", 19);
        Due.fault(TWO + "stop 99 0;", 19);
        Due.fault("stop 0 0;town 0;", 5);
    }

    static void part1TheFirstStopNeedsNoRoad() {
        Due.good("town 0;stop 0 0;", 2);
    }

    static void part1StopWithoutARoadFromTheLast() {
        Due.fault(TWO + "stop 0 0;stop 1 0;", 28);
        Due.fault("town 0;" + TWO + "road 0 1 1;road 1 2 1;stop 0 0;stop 2 0;", 57);
        Due.good("town 0;" + TWO + "road 0 1 1;road 1 2 1;stop 0 0;stop 1 0;stop 2 0;", 8);
    }

    static void part1StopInTheSameTownAsTheLast() {
        Due.fault(TWO + "road 0 1 1;stop 0 0;stop 0 0;", 39);
        Due.fault(TWO + "road 0 1 1;stop 0 0;stop 1 0;stop 1 0;", 48);
        Due.fault("town 0;stop 0 0;stop 0 0;", 21);
    }

    static void part1TheRoadToAStopIsToldAheadOfIt() {
        Due.fault(TWO + "stop 0 0;stop 1 0;road 0 1 1;", 28);
        Due.good(TWO + "stop 0 0;road 0 1 1;stop 1 0;", 5);
        Due.good(TWO + "stop 0 0;road 1 0 1;stop 1 0;", 5);
    }

    // ---- TOKENS are words of letters a .. z (town, road, stop), NUMBERS and ;

    static void part1EveryByteAsTheFirst() {
        for (int sign = 0; sign < 256; sign++) {
            if (sign == ' ') Due.good(" ", 0);
            else Due.fault(String.valueOf((char) sign), 0);
        }
    }

    static void part1LettersAreAToZ() {
        for (String sign : new String[] {"`", "{", "@", "[", "A", "Z", "T"}) {
            Due.fault("town 1;" + sign, 7);
            Due.fault("town" + sign + "1;", 4);
            Due.fault(sign + "own 1;", 0);
        }
        for (String sign : new String[] {"a", "z", "m"}) {
            Due.fault("town" + sign + " 1;", 0);
            Due.fault(sign + "town 1;", 0);
        }
    }

    static void part1DigitsAre0To9() {
        Due.is("town(0, 0)", Due.told("town 10;").town(0, 0), 10);
        Due.is("town(0, 0)", Due.told("town 19;").town(0, 0), 19);
        Due.is("town(0, 0)", Due.told("town 90;").town(0, 0), 90);
        Due.fault("town /;", 5);
        Due.fault("town :;", 5);
        Due.fault("town 1/;", 6);
        Due.fault("town 1:;", 6);
    }

    static void part1NoNumberHasASign() {
        Due.fault("town -1;", 5);
        Due.fault("town +1;", 5);
        Due.fault("town 1.0;", 6);
    }

    static void part1ByteThatBeginsNone() {
        Due.fault("!", 0);
        Due.fault("town !", 5);
        Due.fault("town 1!", 6);
        Due.fault("town 1; \u00ff", 8);
    }

    static void part1WordThatIsNoneOfThese() {
        for (String word : new String[] {"t", "tow", "towns", "twn", "toww", "roads", "roa", "rode", "stops", "sto", "stow", "x"}) {
            Due.fault(word + " 1;", 0);
            Due.fault("town 1; " + word, 8);
        }
        for (String word : new String[] {"town", "road", "stop"}) {
            for (int i = 0; i < 4; i++) Due.fault(word.substring(0, i) + "z" + word.substring(i + 1) + " 1;", 0);
            for (int i = 0; i < 4; i++) Due.fault("town 1;" + word.substring(0, i) + word.substring(i + 1) + " 1;", 7);
            for (int i = 0; i <= 4; i++) Due.fault(word.substring(0, i) + "a" + word.substring(i) + " 1;", 0);
        }
        Due.fault("town towns", 5);
        Due.fault("town 1 towns;", 7);
        Due.fault(TWO + "road 0 1 1 x;", 25);
        Due.fault(TWO + "stop 0 0 x;", 23);
        Due.fault("t".repeat(300), 0);
    }

    static void part1NumberAbove99() {
        Due.fault("town 100", 5);
        Due.fault("town 4294967297;", 5);
        Due.fault("town 18446744073709551617;", 5);
        Due.fault("town " + "1".repeat(295), 5);
    }

    static void part1NumberWithA0Ahead() {
        Due.fault("town 00;", 5);
        Due.fault("town 01;", 5);
        Due.fault("town 099;", 5);
        Due.fault(TWO + "road 00 1 1;", 19);
        Due.fault(TWO + "road 0 01 1;", 21);
        Due.fault(TWO + "road 0 1 01;", 23);
        Due.fault(TWO + "stop 00 0;", 19);
        Due.fault(TWO + "stop 0 00;", 21);
        Due.good("town 0;", 1);
    }

    /** A number that can't be one stands for nothing else: no end of an item, no word, no end of the text. */
    static void part1NumberThatIsNoneWhereNoNumberIsDue() {
        for (String number : new String[] {"100", "00", "01", "099", "4294967297"}) {
            Due.fault("town 1 " + number, 7);
            Due.fault("town 1 " + number + ";", 7);
            Due.fault(TWO + "road 0 1 1 " + number + " stop 0 0;", 25);
            Due.fault(TWO + "stop 0 0 " + number + " town 1;", 23);
            Due.fault(number, 0);
            Due.fault(number + " 1;", 0);
            Due.fault("town 1;" + number + ";", 7);
            Due.fault(TWO + number + " 0 1 1;", 14);
            Due.fault(TWO + number + " 0 1;", 14);
        }
    }

    static void part1NumberWithA0Behind() {
        Due.good(TWO + "road 0 1 10;road 0 1 20;road 0 1 30;", 5);
    }

    // ---- FAULT: the first; the text's length, if it ends too early

    /** Cut behind each byte: a word that is cut is none of these; a whole item is enough. */
    static void part1TextThatEndsTooEarly() {
        String text = "town 1; town 22 ;road 0 1 30; stop 0 9;stop 1 0;";
        for (int cut = 0; cut <= text.length(); cut++) {
            String part = text.substring(0, cut);
            String item = part.substring(part.lastIndexOf(';') + 1);
            if (item.isBlank()) Due.good(part, part.length() - part.replace(";", "").length());
            else if (item.strip().length() < 4) Due.fault(part, cut - item.strip().length());
            else Due.fault(part, cut);
        }
    }

    static void part1TextThatEndsTooEarlyBehindBlanks() {
        Due.fault("town ", 5);
        Due.fault("town   1   ", 11);
        Due.fault(TWO + "road 0 1  ", 24);
        Due.fault(TWO + "stop 0  ", 22);
    }

    static void part1FullTextThatEndsTooEarly() {
        Due.fault(" ".repeat(294) + "town 1", 300);
        Due.fault(padded("town 1"), 300);
        Due.fault(" ".repeat(296) + "stop", 300);
    }

    static void part1FaultAtTheLastByteOfAFullText() {
        Due.fault(" ".repeat(299) + ";", 299);
        Due.fault(" ".repeat(299) + "t", 299);
    }

    static void part1TheFirstFaultCounts() {
        Due.fault("town 100;!", 5);
        Due.fault("town x!", 5);
        Due.fault(TWO + "road 2 2 0;", 19);
        Due.fault(TWO + "road 0 0 0;", 21);
        Due.fault(TWO + "road 0 1 31!", 23);
        Due.fault(TWO + "stop 2 10;", 19);
        Due.fault(TWO + "stop 0 10!", 21);
        Due.fault(";!", 0);
    }

    public static void main(String[] args) throws ReflectiveOperationException {
        Due.all(Part1Test.class, "part1");
    }
}
