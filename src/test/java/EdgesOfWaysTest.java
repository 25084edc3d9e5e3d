/** Boundary sentences of promises 12 to 20: what one can come to, errands, meetings, trips, what is brought. */
public final class EdgesOfWaysTest {
    private static final String HOUSE = "room 9;room 5;room 0;flight 0 1 5;flight 1 2 7;door 1 100 200;hoist 10 1 30";

    private EdgesOfWaysTest() {
    }

    public static void main(String[] args) {
        Edges.run(EdgesOfWaysTest.class);
    }

    private static void due(int got, int want) {
        Edges.due(got, want);
    }

    // ---- promise 12: soonest ----------------------------------------------------------------------

    @Edges.Says("`int soonest(int from, int minute, int to, boolean hoist)`: SOONEST (minute 0 to 1439);")
    private static void p12_minute0To1439() {
        DownOnly x = Edges.told(HOUSE);
        due(x.soonest(0, 0, 1, false), 5);
        due(x.soonest(0, 1439, 0, false), 1439);
        due(x.soonest(0, 1439, 1, false), -2);
        for (int minute : Edges.NO_MINUTES) {
            due(x.soonest(0, minute, 0, false), -1);
            due(x.soonest(0, minute, 1, true), -1);
        }
    }

    @Edges.Says("the least minute, 1439 at most.")
    private static void p12_1439AtMost() {
        DownOnly x = Edges.told(HOUSE);
        due(x.soonest(0, 1434, 1, false), 1439);
        due(x.soonest(0, 1435, 1, false), -2);
        DownOnly y = Edges.told("room 9;room 9;room 9;passage 0 1 30;passage 1 2 30");
        due(y.soonest(2, 1379, 0, false), 1439);
        due(y.soonest(2, 1380, 0, false), -2);
    }

    @Edges.Says("the least minute, 1439 at most.")
    private static void p12_theLeastMinuteOfSeveralWays() {
        DownOnly x = Edges.told("room 9;room 5;room 0;flight 0 2 20;flight 0 1 5;flight 1 2 7;flight 0 2 13");
        due(x.soonest(0, 0, 2, false), 12);
        DownOnly y = Edges.told("room 9;room 0;flight 0 1 60;flight 0 1 1;door 1 59 59");
        due(y.soonest(0, 0, 1, false), 60);
        due(y.soonest(0, 1, 1, false), 60);
        due(y.soonest(0, 59, 1, false), 60);
        due(y.soonest(0, 60, 1, false), 120);
    }

    @Edges.Says("-2: not today;")
    private static void p12_notToday() {
        DownOnly x = Edges.told(HOUSE);
        due(x.soonest(2, 0, 0, false), -2);
        due(x.soonest(1, 0, 0, false), -2);
        due(x.soonest(1, 201, 2, false), -2);
        due(x.soonest(0, 196, 2, false), -2);
        due(x.soonest(0, 195, 2, false), 207);
    }

    @Edges.Says("A WAY can be SET OFF by in a minute in which it is open (or it has no door),")
    private static void p12_oneWaitsForADoor() {
        DownOnly x = Edges.told(HOUSE);
        due(x.soonest(1, 0, 2, false), 107);
        due(x.soonest(1, 99, 2, false), 107);
        due(x.soonest(1, 100, 2, false), 107);
        due(x.soonest(1, 101, 2, false), 108);
        due(x.soonest(1, 200, 2, false), 207);
        due(x.soonest(1, 201, 2, false), -2);
    }

    @Edges.Says("SOONEST from a ROOM at a minute to another one (with the hoist, once, or without):")
    private static void p12_withTheHoistOrWithout() {
        DownOnly x = Edges.told(HOUSE);
        due(x.soonest(2, 0, 0, true), 10);
        due(x.soonest(2, 0, 0, false), -2);
        due(x.soonest(2, 1, 0, true), 40);
        due(x.soonest(2, 30, 0, true), 40);
        due(x.soonest(2, 0, 1, true), 15);
        DownOnly none = Edges.told("room 9;room 5;flight 0 1 5");
        due(none.soonest(1, 0, 0, true), -2);
        DownOnly last = Edges.told("room 0;room 5;room 9;hoist 10 1 30");
        due(last.soonest(0, 0, 2, true), 10);
        due(last.soonest(1, 0, 2, true), 10);
        due(last.soonest(0, 0, 1, true), -2);
    }

    @Edges.Says("SOONEST from a ROOM at a minute to another one (with the hoist, once, or without):")
    private static void p12_theLastHoistOfTheDay() {
        DownOnly x = Edges.told("room 9;room 5;hoist 29 1 30");
        due(x.soonest(1, 1410, 0, true), 1439);
        due(x.soonest(1, 1411, 0, true), -2);
        DownOnly y = Edges.told("room 9;room 5;hoist 30 1 30");
        due(y.soonest(1, 1380, 0, true), 1410);
        due(y.soonest(1, 1381, 0, true), -2);
        DownOnly z = Edges.told("room 9;room 5;hoist 1 1 1");
        due(z.soonest(1, 1438, 0, true), 1439);
        due(z.soonest(1, 1439, 0, true), -2);
    }

    @Edges.Says("SOONEST from a ROOM at a minute to another one (with the hoist, once, or without):")
    private static void p12_toTheSameRoomTheMinuteGiven() {
        DownOnly x = Edges.told(HOUSE);
        for (int minute : new int[] {0, 1, 777, 1439}) {
            due(x.soonest(0, minute, 0, true), minute);
            due(x.soonest(2, minute, 2, false), minute);
        }
    }

    @Edges.Says("(Nothing of where PEOPLE are NOW is asked, but in BEDS.)")
    private static void p12_whereThePeopleAreIsNotAsked() {
        DownOnly x = Edges.told(HOUSE + ";person 2", "wait");
        x.go(0, 24);
        due(x.soonest(2, 0, 0, true), 10);
        x.tick(0, 1440);
        due(x.soonest(2, 0, 0, true), 10);
        due(x.soonest(0, 0, 1, false), 5);
    }

    @Edges.Says("SOONEST (minute 0 to 1439); -2: not today; NONE without these.")
    private static void p12_noneWithoutThese() {
        DownOnly x = Edges.told(HOUSE);
        due(x.soonest(3, 0, 0, true), -1);
        due(x.soonest(0, 0, 3, true), -1);
        due(x.soonest(3, 0, 3, true), -1);
        due(x.soonest(16, 0, 16, true), -1);
        for (int room : Edges.NEVER) {
            due(x.soonest(room, 0, 0, true), -1);
            due(x.soonest(0, 0, room, false), -1);
        }
        due(new DownOnly().soonest(0, 0, 0, true), -1);
    }

    // ---- promise 13: still ------------------------------------------------------------------------

    @Edges.Says("STILL: ROOMS to which one can come so.")
    private static void p13_roomsToWhichOneCanComeBy1439() {
        DownOnly x = Edges.told(HOUSE);
        due(x.still(0, 0, false), 7);
        due(x.still(2, 0, false), 4);
        due(x.still(2, 0, true), 7);
        due(x.still(1, 200, false), 6);
        due(x.still(1, 201, false), 2);
        due(x.still(0, 1434, false), 3);
        due(x.still(0, 1435, false), 1);
        due(x.still(0, 1439, true), 1);
        due(x.still(2, 1410, true), 7);
        due(x.still(2, 1411, true), 4);
    }

    @Edges.Says("`int still(int from, int minute, boolean hoist)`: STILL, as bits;")
    private static void p13_oneRoomAndAll16() {
        due(Edges.told("room 9").still(0, 1439, false), 1);
        StringBuilder s = new StringBuilder(Edges.times("room9", 16, ";"));
        for (int k = 0; k < 15; k++) {
            s.append(";passage").append(k).append(' ').append(k + 1).append(" 60");
        }
        DownOnly x = Edges.told(s.toString());
        due(x.still(0, 0, false), 65535);
        due(x.still(0, 0, true), 65535);
        due(x.still(15, 539, false), 65535);
        due(x.still(15, 540, false), 65534);
        due(x.still(15, 1439, false), 32768);
    }

    @Edges.Says("STILL, as bits; NONE without these.")
    private static void p13_noneWithoutThese() {
        DownOnly x = Edges.told(HOUSE);
        due(x.still(3, 0, true), -1);
        for (int room : Edges.NEVER) {
            due(x.still(room, 0, true), -1);
        }
        for (int minute : Edges.NO_MINUTES) {
            due(x.still(0, minute, true), -1);
        }
        due(new DownOnly().still(0, 0, true), -1);
    }

    // ---- promise 14: downs ------------------------------------------------------------------------

    @Edges.Says("DOWNS from a ROOM to another one: rows of flights, each from where the one ahead ends (doors not asked):")
    private static void p14_rowsOfFlightsDoorsNotAsked() {
        DownOnly x = Edges.told("room 9;room 5;room 5;room 0;flight 0 1 60;flight 1 3 60;flight 2 3 60;passage 1 2 1;door 0 9 9;door 1 0 0");
        due(x.downs(0, 3, 0), 1);
        due(x.downs(0, 3, 1), 2);
        due(x.downs(0, 3, 2), 0);
        due(x.downs(0, 2, 0), 0);
        due(x.downs(1, 2, 0), 0);
    }

    @Edges.Says("how many (1000000 at most; 1, the empty one, to itself);")
    private static void p14_theEmptyOneToItself() {
        DownOnly x = Edges.told(HOUSE);
        for (int room = 0; room < 3; room++) {
            due(x.downs(room, room, 0), 1);
            due(x.downs(room, room, 1), 0);
            due(x.downs(room, room, 2), -2);
        }
    }

    @Edges.Says("how many (1000000 at most; 1, the empty one, to itself);")
    private static void p14_asManyAs24FlightsGive() {
        // 24 flights give 3 to the 8th at most, so the million is never come to
        StringBuilder s = new StringBuilder("room8;room7;room6;room5;room4;room3;room2;room1;room0");
        for (int k = 0; k < 8; k++) {
            s.append(Edges.times(";flight" + k + " " + (k + 1) + " 1", 3, ""));
        }
        DownOnly x = Edges.told(s.toString());
        due(x.downs(0, 8, 0), 6561);
        due(x.downs(0, 8, 1), 8);
        due(x.downs(0, 8, 2), 0);
        due(x.downs(7, 8, 0), 3);
        due(x.downs(7, 8, 2), 21);
    }

    @Edges.Says("the LONGEST: the most flights in one, the first flight of such a one (of several the least).")
    private static void p14_theFirstFlightOfTheLongestOfSeveralTheLeast() {
        DownOnly x = Edges.told("room3;room2;room1;flight0 2 1;flight1 2 1;flight0 1 60;flight0 1 1");
        due(x.downs(0, 2, 0), 3);
        due(x.downs(0, 2, 1), 2);
        due(x.downs(0, 2, 2), 2);
        due(x.downs(0, 1, 2), 2);
        due(x.downs(1, 2, 2), 1);
        DownOnly ends = Edges.told("room 40;room 0;flight 0 1 1");
        due(ends.downs(0, 1, 0), 1);
        due(ends.downs(0, 1, 1), 1);
        due(ends.downs(0, 1, 2), 0);
    }

    @Edges.Says("DOWNS what 0: how many, 1: the LONGEST, 2: its first flight (-2: it has none). 1, 2: -2 if there is none;")
    private static void p14_minus2IfThereIsNone() {
        DownOnly x = Edges.told(HOUSE);
        due(x.downs(2, 0, 0), 0);
        due(x.downs(2, 0, 1), -2);
        due(x.downs(2, 0, 2), -2);
        due(x.downs(1, 0, 1), -2);
        due(x.downs(0, 2, 1), 2);
    }

    @Edges.Says("`int downs(int from, int to, int what)`: DOWNS what 0: how many, 1: the LONGEST, 2: its first flight (-2: it has none). 1, 2: -2 if there is none; NONE without these.")
    private static void p14_noneWithoutThese() {
        DownOnly x = Edges.told(HOUSE);
        due(x.downs(0, 0, 3), -1);
        for (int what = 0; what <= 2; what++) {
            due(x.downs(3, 0, what), -1);
            due(x.downs(0, 3, what), -1);
            due(new DownOnly().downs(0, 0, what), -1);
            for (int k : Edges.NEVER) {
                due(x.downs(k, 0, what), -1);
                due(x.downs(0, k, what), -1);
                due(x.downs(0, 0, k), -1);
            }
        }
    }

    // ---- promise 15: errand -----------------------------------------------------------------------

    @Edges.Says("`int errand(int room, int from, int till, int worth)`: An ERRAND: its number;")
    private static void p15_itsNumber() {
        DownOnly x = Edges.told(HOUSE);
        due(x.errand(0, 0, 0, 0), 0);
        due(x.errand(2, 1439, 1439, 99), 1);
        due(x.errand(1, 0, 1439, 50), 2);
        due(x.count(5), 3);
    }

    @Edges.Says("ERRANDS 0 to 9: a ROOM, from, till (minutes), a worth (0 to 99).")
    private static void p15_errands0To9() {
        DownOnly x = Edges.told("room 1;hoist 1 1 1");
        for (int k = 0; k < 10; k++) {
            due(x.errand(0, 0, 9, 1), k);
        }
        due(x.count(5), 10);
        due(x.best(0, 0, false, 0), 10);
        due(x.best(0, 0, false, 1), 1023);
    }

    @Edges.Says("NONE: there are 10, or something is not as told (till below from).")
    private static void p15_noneIfThereAre10() {
        DownOnly x = Edges.told("room 1;hoist 1 1 1");
        for (int k = 0; k < 10; k++) {
            x.errand(0, 0, 9, 1);
        }
        Edges.refused(x, y -> y.errand(0, 0, 9, 99), -1);
        due(x.errand(0, 0, 9, 99), -1);
        due(x.best(0, 0, false, 0), 10);
    }

    @Edges.Says("NONE: there are 10, or something is not as told (till below from).")
    private static void p15_noneIfTillIsBelowFrom() {
        DownOnly x = Edges.told(HOUSE);
        Edges.refused(x, y -> y.errand(0, 5, 4, 1), -1);
        due(x.errand(0, 1439, 0, 1), -1);
        due(x.errand(0, 5, 5, 1), 0);
    }

    @Edges.Says("NONE: there are 10, or something is not as told (till below from).")
    private static void p15_noneIfSomethingIsNotAsTold() {
        DownOnly x = Edges.told(HOUSE);
        due(x.errand(3, 0, 1, 1), -1);
        for (int room : Edges.NEVER) {
            due(x.errand(room, 0, 1, 1), -1);
        }
        for (int minute : Edges.NO_MINUTES) {
            due(x.errand(0, minute, 1439, 1), -1);
            due(x.errand(0, 0, minute, 1), -1);
        }
        due(x.errand(0, 1440, 1440, 1), -1);
        due(x.errand(0, -1, -1, 1), -1);
        due(x.errand(0, 0, 1, 100), -1);
        for (int worth : Edges.NEVER) {
            due(x.errand(0, 0, 1, worth), -1);
        }
        due(x.count(5), 0);
        due(new DownOnly().errand(0, 0, 1, 1), -1);
    }

    // ---- promise 16: best -------------------------------------------------------------------------

    private static void best(DownOnly x, int from, int minute, boolean hoist, int worth, int set, int done) {
        due(x.best(from, minute, hoist, 0), worth);
        due(x.best(from, minute, hoist, 1), set);
        due(x.best(from, minute, hoist, 2), done);
    }

    /** From room 0 down to room 1 or to room 2, and never back. */
    private static DownOnly fork(int one, int other) {
        return Edges.told("room 1;room 0;room 0;flight 0 1 " + one + ";flight 0 2 " + other);
    }

    @Edges.Says("when it is done (the minute given, if it is empty).")
    private static void p16_theMinuteGivenIfItIsEmpty() {
        DownOnly x = Edges.told(HOUSE);
        best(x, 0, 0, false, 0, 0, 0);
        best(x, 2, 1439, true, 0, 0, 1439);
        x.errand(0, 0, 9, 5);
        best(x, 0, 10, true, 0, 0, 10);
        best(x, 1, 3, false, 0, 0, 3);
    }

    @Edges.Says("One is DONE by being in its ROOM in some minute of these.")
    private static void p16_doneInSomeMinuteOfThese() {
        DownOnly x = Edges.told(HOUSE);
        x.errand(0, 10, 20, 5);
        best(x, 0, 0, false, 5, 1, 10);
        best(x, 0, 10, false, 5, 1, 10);
        best(x, 0, 15, false, 5, 1, 15);
        best(x, 0, 20, false, 5, 1, 20);
        best(x, 0, 21, false, 0, 0, 21);
        DownOnly y = Edges.told(HOUSE);
        y.errand(1, 0, 5, 7);
        best(y, 0, 0, false, 7, 1, 5);
        best(y, 0, 1, false, 0, 0, 1);
    }

    @Edges.Says("One is DONE by being in its ROOM in some minute of these.")
    private static void p16_doneInTheLastMinuteOfTheDay() {
        DownOnly x = Edges.told(HOUSE);
        x.errand(1, 1439, 1439, 7);
        best(x, 0, 1434, false, 7, 1, 1439);
        best(x, 0, 1435, false, 0, 0, 1435);
        best(x, 1, 1439, false, 7, 1, 1439);
        best(x, 2, 1410, true, 7, 1, 1439);
        best(x, 2, 1411, true, 0, 0, 1411);
    }

    @Edges.Says("BEST from a ROOM at a minute (with the hoist or without): the set of ERRANDS that can all be DONE one behind the other, in some order, with the most worth;")
    private static void p16_theMostWorth() {
        DownOnly x = fork(5, 5);
        x.errand(1, 0, 50, 50);
        x.errand(2, 0, 50, 25);
        x.errand(2, 0, 60, 24);
        best(x, 0, 0, false, 50, 1, 5);
        x.errand(2, 40, 60, 2);
        best(x, 0, 0, false, 51, 14, 40);
    }

    @Edges.Says("BEST from a ROOM at a minute (with the hoist or without): the set of ERRANDS that can all be DONE one behind the other, in some order, with the most worth;")
    private static void p16_inSomeOrder() {
        DownOnly x = Edges.told("room 1;room 1;room 1;passage 0 1 10;passage 1 2 10");
        x.errand(2, 20, 20, 1);
        x.errand(0, 0, 0, 1);
        x.errand(0, 40, 40, 1);
        x.errand(1, 10, 10, 1);
        best(x, 0, 0, false, 4, 15, 40);
        // one minute less and not all can be done
        DownOnly y = Edges.told("room 1;room 1;room 1;passage 0 1 10;passage 1 2 10");
        y.errand(2, 20, 20, 1);
        y.errand(0, 0, 0, 1);
        y.errand(0, 39, 39, 1);
        y.errand(1, 10, 10, 1);
        best(y, 0, 0, false, 3, 11, 20);
    }

    @Edges.Says("BEST from a ROOM at a minute (with the hoist or without): the set of ERRANDS that can all be DONE one behind the other, in some order, with the most worth;")
    private static void p16_allTenOfTheMostWorthInOneMinute() {
        DownOnly x = Edges.told("room 1");
        for (int k = 0; k < 10; k++) {
            x.errand(0, k, 1439 - k, 99);
        }
        best(x, 0, 0, false, 990, 1023, 9);
        best(x, 0, 1430, true, 990, 1023, 1430);
        best(x, 0, 1431, true, 891, 511, 1431);
        best(x, 0, 1439, true, 99, 1, 1439);
    }

    @Edges.Says("when it is done (the minute given, if it is empty).")
    private static void p16_whenTheLastOfTheFirstAndTheTenthIsDone() {
        DownOnly x = Edges.told("room 1;room 0;flight 0 1 9");
        x.errand(1, 20, 20, 5);
        for (int k = 1; k < 9; k++) {
            x.errand(0, 0, 9, 5);
        }
        x.errand(1, 5, 5, 5);
        best(x, 1, 0, false, 10, 513, 20);
        best(x, 1, 6, false, 5, 1, 20);
        best(x, 1, 0, true, 10, 513, 20);
    }

    @Edges.Says("of several the one that is done soonest (the last one's minute),")
    private static void p16_ofSeveralTheOneDoneSoonest() {
        DownOnly x = fork(5, 4);
        x.errand(1, 0, 50, 6);
        x.errand(2, 0, 50, 6);
        best(x, 0, 0, false, 6, 2, 4);
        // the last one's minute counts, not the first one's
        DownOnly y = fork(5, 4);
        y.errand(2, 0, 50, 3);
        y.errand(2, 30, 50, 3);
        y.errand(1, 20, 50, 6);
        best(y, 0, 0, false, 6, 4, 20);
    }

    @Edges.Says("then the least set;")
    private static void p16_thenTheLeastSet() {
        DownOnly x = fork(5, 5);
        x.errand(2, 0, 50, 6);
        x.errand(1, 0, 50, 6);
        best(x, 0, 0, false, 6, 1, 5);
        // what has no worth is left out, even if it would cost nothing
        DownOnly y = Edges.told("room 1");
        y.errand(0, 0, 50, 0);
        best(y, 0, 0, false, 0, 0, 0);
        y.errand(0, 0, 50, 5);
        best(y, 0, 0, false, 5, 2, 0);
    }

    @Edges.Says("BEST from a ROOM at a minute (with the hoist or without):")
    private static void p16_withTheHoistOnceOrWithout() {
        DownOnly x = Edges.told("room 1;room 0;flight 0 1 5;hoist 5 1 10");
        x.errand(0, 10, 20, 10);
        x.errand(1, 20, 40, 10);
        x.errand(0, 50, 60, 10);
        best(x, 1, 0, true, 20, 3, 20);
        best(x, 1, 0, false, 10, 2, 20);
        best(x, 0, 0, true, 30, 7, 50);
        best(x, 0, 0, false, 20, 3, 20);
    }

    @Edges.Says("`int best(int from, int minute, boolean hoist, int what)`: BEST what 0: worth, 1: the set, 2: when it is done; NONE without these.")
    private static void p16_noneWithoutThese() {
        DownOnly x = Edges.told(HOUSE);
        due(x.best(3, 0, true, 0), -1);
        due(x.best(0, 0, true, 3), -1);
        for (int k : Edges.NEVER) {
            due(x.best(k, 0, true, 0), -1);
            due(x.best(0, 0, true, k), -1);
        }
        for (int minute : Edges.NO_MINUTES) {
            due(x.best(0, minute, true, 2), -1);
        }
        due(new DownOnly().best(0, 0, true, 0), -1);
    }

    // ---- promise 17: meeting ----------------------------------------------------------------------

    private static void meeting(DownOnly x, int[] from, boolean hoist, int minute, int room, int many) {
        due(x.meeting(from[0], from[1], from[2], from[3], hoist, 0), minute);
        due(x.meeting(from[0], from[1], from[2], from[3], hoist, 1), room);
        due(x.meeting(from[0], from[1], from[2], from[3], hoist, 2), many);
    }

    @Edges.Says("MEETING of two, each from a ROOM at a minute (with the hoist each, or without): the first minute in which both can be in one ROOM (neither ahead of his own minute),")
    private static void p17_theFirstMinuteNeitherAheadOfHisOwn() {
        DownOnly x = Edges.told(HOUSE);
        meeting(x, new int[] {0, 0, 1, 0}, false, 5, 1, 2);
        meeting(x, new int[] {0, 0, 1, 5}, false, 5, 1, 2);
        meeting(x, new int[] {0, 0, 1, 6}, false, 6, 1, 2);
        meeting(x, new int[] {1, 6, 0, 0}, false, 6, 1, 2);
        meeting(x, new int[] {2, 0, 2, 1439}, false, 1439, 2, 1);
        meeting(x, new int[] {2, 3, 2, 3}, false, 3, 2, 1);
    }

    @Edges.Says("MEETING of two, each from a ROOM at a minute (with the hoist each, or without): the first minute in which both can be in one ROOM (neither ahead of his own minute),")
    private static void p17_withTheHoistEachOrWithout() {
        DownOnly x = Edges.told("room 9;room 0;room 0;hoist 10 1 30");
        meeting(x, new int[] {1, 0, 2, 0}, false, -2, -2, 0);
        meeting(x, new int[] {1, 0, 2, 0}, true, 10, 0, 1);
        meeting(x, new int[] {1, 0, 2, 1}, true, 40, 0, 1);
        meeting(x, new int[] {1, 1410, 2, 1410}, true, 1420, 0, 1);
        meeting(x, new int[] {1, 1410, 2, 1411}, true, -2, -2, 0);
    }

    @Edges.Says("the least such ROOM;")
    private static void p17_theLeastSuchRoom() {
        DownOnly x = Edges.told("room 5;room 5;room 1;room 1;flight 0 3 4;flight 0 2 4;flight 1 2 4;flight 1 3 4");
        meeting(x, new int[] {0, 0, 1, 0}, false, 4, 2, 2);
        meeting(x, new int[] {1, 0, 0, 0}, false, 4, 2, 2);
        // a later minute in a lesser room does not count
        DownOnly y = Edges.told("room 5;room 5;room 1;room 1;flight 0 3 4;flight 0 2 5;flight 1 2 4;flight 1 3 4");
        meeting(y, new int[] {0, 0, 1, 0}, false, 4, 3, 2);
    }

    @Edges.Says("in how many ROOMS they could at all.")
    private static void p17_inHowManyRoomsBy1439() {
        DownOnly x = Edges.told("room 5;room 4;room 3;flight 0 1 10;flight 1 2 10");
        meeting(x, new int[] {0, 0, 0, 0}, false, 0, 0, 3);
        meeting(x, new int[] {0, 0, 0, 1419}, false, 1419, 0, 3);
        meeting(x, new int[] {0, 0, 0, 1420}, false, 1420, 0, 2);
        meeting(x, new int[] {0, 0, 0, 1429}, false, 1429, 0, 2);
        meeting(x, new int[] {0, 0, 0, 1430}, false, 1430, 0, 1);
        meeting(x, new int[] {2, 0, 0, 0}, false, 20, 2, 1);
    }

    @Edges.Says("MEETING what 0: the minute, 1: the ROOM, 2: in how many ROOMS; 0, 1: -2: not today;")
    private static void p17_notToday() {
        DownOnly x = Edges.told("room 5;room 4;flight 0 1 10");
        meeting(x, new int[] {1, 0, 0, 1429}, false, 1439, 1, 1);
        meeting(x, new int[] {1, 0, 0, 1430}, false, -2, -2, 0);
        DownOnly apart = Edges.told("room 5;room 5");
        meeting(apart, new int[] {0, 0, 1, 0}, true, -2, -2, 0);
    }

    @Edges.Says("`int meeting(int one, int minute, int other, int otherMinute, boolean hoist, int what)`: MEETING what 0: the minute, 1: the ROOM, 2: in how many ROOMS; 0, 1: -2: not today; NONE without these.")
    private static void p17_noneWithoutThese() {
        DownOnly x = Edges.told(HOUSE);
        due(x.meeting(3, 0, 0, 0, true, 0), -1);
        due(x.meeting(0, 0, 3, 0, true, 0), -1);
        due(x.meeting(0, 0, 0, 0, true, 3), -1);
        for (int k : Edges.NEVER) {
            due(x.meeting(k, 0, 0, 0, true, 0), -1);
            due(x.meeting(0, 0, k, 0, true, 1), -1);
            due(x.meeting(0, 0, 0, 0, true, k), -1);
        }
        for (int minute : Edges.NO_MINUTES) {
            due(x.meeting(0, minute, 0, 0, true, 0), -1);
            due(x.meeting(0, 0, 0, minute, true, 2), -1);
        }
        due(new DownOnly().meeting(0, 0, 0, 0, true, 2), -1);
    }

    // ---- promise 18: trip -------------------------------------------------------------------------

    @Edges.Says("TRIPS 0 to 11:")
    private static void p18_trips0To11() {
        DownOnly x = Edges.told(HOUSE);
        for (int k = 1; k <= 12; k++) {
            due(x.trip(0, k, 1), k);
        }
        due(x.count(6), 12);
        due(x.trips(0, -1), 6);
        due(x.trips(11, -1), 17);
    }

    @Edges.Says("`int trip(int from, int minute, int to)`: A TRIP (from NONE: there are none then, 0): how many there are;")
    private static void p18_fromNoneThereAreNoneThen() {
        DownOnly x = Edges.told(HOUSE);
        due(x.trip(0, 0, 1), 1);
        due(x.trip(0, 0, 1), 2);
        due(x.trip(-1, -5, 77), 0);
        due(x.count(6), 0);
        due(x.trips(0, -1), -1);
        due(x.trip(1, 100, 2), 1);
        due(x.trips(0, -1), 107);
        due(x.trip(-1, 0, 0), 0);
        due(x.trip(-1, 0, 0), 0);
        due(new DownOnly().trip(-1, 0, 0), 0);
    }

    @Edges.Says("-2, and nothing happens, without these, without a way, or if there are 12.")
    private static void p18_minus2WithoutThese() {
        DownOnly x = Edges.told(HOUSE);
        x.trip(0, 0, 1);
        Edges.refused(x, y -> y.trip(3, 0, 0), -2);
        due(x.trip(0, 0, 3), -2);
        for (int k : Edges.NEVER) {
            due(x.trip(0, 0, k), -2);
        }
        for (int from : new int[] {-2, 16, Edges.LEAST, Edges.MOST}) {
            due(x.trip(from, 0, 0), -2);
        }
        for (int minute : Edges.NO_MINUTES) {
            due(x.trip(0, minute, 0), -2);
        }
        due(x.count(6), 1);
        due(new DownOnly().trip(0, 0, 0), -2);
    }

    @Edges.Says("(No TRIP without a way.)")
    private static void p18_minus2WithoutAWay() {
        DownOnly x = Edges.told(HOUSE);
        Edges.refused(x, y -> y.trip(1, 0, 0), -2);
        // the hoist is not for trips
        due(x.trip(2, 0, 0), -2);
        due(x.trip(1, 201, 2), -2);
        due(x.trip(1, 200, 2), 1);
        due(x.trip(0, 1435, 1), -2);
        due(x.trip(0, 1434, 1), 2);
    }

    @Edges.Says("-2, and nothing happens, without these, without a way, or if there are 12.")
    private static void p18_minus2IfThereAre12() {
        DownOnly x = Edges.told("room 9;room 5;flight 0 1 5");
        for (int k = 1; k <= 12; k++) {
            x.trip(0, 0, 1);
        }
        Edges.refused(x, y -> y.trip(0, 1, 1), -2);
        due(x.trip(0, 0, 0), -2);
        due(x.trip(-1, 0, 0), 0);
        due(x.trip(0, 1, 1), 1);
    }

    // ---- promise 19: trips ------------------------------------------------------------------------

    @Edges.Says("Of a TRIP its k-th WAY (k 0 and above; -2: it has not so many),")
    private static void p19_itsWaysAndNoMore() {
        DownOnly x = Edges.told(HOUSE);
        x.trip(0, 0, 2);
        due(x.trips(0, 0), 0);
        due(x.trips(0, 1), 1);
        due(x.trips(0, 2), -2);
        due(x.trips(0, 1440), -2);
        due(x.trips(0, Edges.MOST), -2);
    }

    @Edges.Says("or to the same: by no WAY)")
    private static void p19_toTheSameRoomByNoWay() {
        DownOnly x = Edges.told("room 1;room 1;passage 0 1 1");
        due(x.trip(0, 0, 0), 1);
        due(x.trip(1, 1439, 1), 2);
        due(x.trips(0, 0), -2);
        due(x.trips(0, -1), 0);
        due(x.trips(1, 0), -2);
        due(x.trips(1, -1), 1439);
    }

    @Edges.Says("when it is there (k -1);")
    private static void p19_whenItIsThere() {
        DownOnly x = Edges.told(HOUSE);
        x.trip(0, 0, 2);
        x.trip(0, 1434, 1);
        x.trip(0, 195, 2);
        due(x.trips(0, -1), 107);
        due(x.trips(1, -1), 1439);
        due(x.trips(2, -1), 207);
    }

    @Edges.Says("NONE without it, or with k below -1.")
    private static void p19_noneWithoutIt() {
        DownOnly x = Edges.told(HOUSE);
        due(x.trips(0, 0), -1);
        due(x.trips(0, -1), -1);
        x.trip(0, 0, 2);
        due(x.trips(1, 0), -1);
        due(x.trips(1, -1), -1);
        due(x.trips(11, 0), -1);
        due(x.trips(12, 0), -1);
        for (int trip : Edges.NEVER) {
            due(x.trips(trip, 0), -1);
            due(x.trips(trip, -1), -1);
        }
        due(new DownOnly().trips(0, 0), -1);
    }

    @Edges.Says("NONE without it, or with k below -1.")
    private static void p19_noneWithKBelowMinus1() {
        DownOnly x = Edges.told(HOUSE);
        x.trip(0, 0, 2);
        due(x.trips(0, -2), -1);
        due(x.trips(0, Edges.LEAST), -1);
        due(x.trips(0, -1), 107);
    }

    @Edges.Says("one who goes from a ROOM at a minute to another one (or to the same: by no WAY) by SOONEST without the hoist: at each ROOM the least WAY by which he still comes at that minute, SET OFF by as soon as can be.")
    private static void p19_theLeastWayByWhichHeStillComesAtThatMinute() {
        DownOnly x = Edges.told("room 2;room 1;room 0;flight 0 1 5;flight 0 1 2;flight 1 2 5;door 2 10 20");
        x.trip(0, 5, 2);
        x.trip(0, 6, 2);
        // by 10 the slower flight is as good; from 6 on it is not
        due(x.trips(0, 0), 0);
        due(x.trips(0, 1), 2);
        due(x.trips(0, -1), 15);
        due(x.trips(1, 0), 1);
        due(x.trips(1, 1), 2);
        due(x.trips(1, -1), 15);
    }

    @Edges.Says("at each ROOM the least WAY by which he still comes at that minute, SET OFF by as soon as can be.")
    private static void p19_toAndFroWhileHeStillComes() {
        // no TRIP can have more WAYS than this one
        DownOnly x = Edges.told("room 1;room 1;room 0;passage 0 1 1;flight 0 2 1;door 1 1438 1438");
        x.trip(0, 0, 2);
        due(x.trips(0, -1), 1439);
        due(x.trips(0, 0), 0);
        due(x.trips(0, 1437), 0);
        due(x.trips(0, 1438), 1);
        due(x.trips(0, 1439), -2);
        due(x.brought(1, 1437, 2), 1439);
        due(x.brought(1, 1438, 2), -2);
        due(x.brought(0, 1438, 2), 1439);
    }

    @Edges.Says("at each ROOM the least WAY by which he still comes at that minute, SET OFF by as soon as can be.")
    private static void p19_notSoLongThatADoorOnTheWayIsMissed() {
        DownOnly x = Edges.told("room 2;room 2;room 1;room 0;passage 0 1 1;flight 0 2 5;flight 2 3 1;door 1 0 11;door 2 100 100");
        x.trip(0, 0, 3);
        due(x.trips(0, -1), 101);
        due(x.trips(0, 9), 0);
        due(x.trips(0, 10), 1);
        due(x.trips(0, 11), 2);
        due(x.trips(0, 12), -2);
    }

    @Edges.Says("at each ROOM the least WAY by which he still comes at that minute, SET OFF by as soon as can be.")
    private static void p19_aLaterTripChangesNoEarlierOne() {
        DownOnly x = Edges.told("room 1;room 1;room 0;passage 0 1 1;flight 0 2 5");
        x.trip(0, 0, 2);
        x.trip(0, 100, 2);
        due(x.trips(1, 0), 1);
        due(x.trips(0, 0), 1);
        due(x.trips(0, 1), -2);
        due(x.trips(1, 0), 1);
    }

    @Edges.Says("at each ROOM the least WAY by which he still comes at that minute, SET OFF by as soon as can be.")
    private static void p19_eachTripHasItsOwnWays() {
        DownOnly x = Edges.told(HOUSE);
        x.trip(0, 0, 1);
        x.trip(1, 100, 2);
        due(x.trips(0, 0), 0);
        due(x.trips(1, 0), 1);
        due(x.trips(0, 1), -2);
        due(x.trips(1, 1), -2);
    }

    // ---- promise 20: brought ----------------------------------------------------------------------

    @Edges.Says("BROUGHT: a thing that lies in a ROOM from a minute on, to another one: by TRIPS that are in the ROOM where it lies when they SET OFF (or begin) there, not ahead of it,")
    private static void p20_notAheadOfIt() {
        DownOnly x = Edges.told(HOUSE);
        x.trip(0, 40, 1);
        due(x.brought(0, 0, 1), 45);
        due(x.brought(0, 40, 1), 45);
        due(x.brought(0, 41, 1), -2);
    }

    @Edges.Says("BROUGHT: a thing that lies in a ROOM from a minute on, to another one: by TRIPS that are in the ROOM where it lies when they SET OFF (or begin) there, not ahead of it,")
    private static void p20_whenTheySetOffBehindAClosedDoor() {
        DownOnly x = Edges.told(HOUSE);
        x.trip(0, 0, 2);
        // it is in room 1 from 5 on and sets off at 100
        due(x.brought(1, 5, 2), 107);
        due(x.brought(1, 100, 2), 107);
        due(x.brought(1, 101, 2), -2);
        DownOnly y = Edges.told(HOUSE);
        y.trip(1, 0, 2);
        due(y.brought(1, 100, 2), 107);
        due(y.brought(1, 101, 2), -2);
    }

    @Edges.Says("and take it along as far as one likes: the least minute at which it can be there.")
    private static void p20_asFarAsOneLikes() {
        DownOnly x = Edges.told("room 3;room 2;room 1;flight 0 1 5;flight 1 2 5");
        x.trip(0, 0, 2);
        due(x.brought(0, 0, 1), 5);
        due(x.brought(0, 0, 2), 10);
        due(x.brought(1, 5, 2), 10);
        due(x.brought(2, 0, 1), -2);
    }

    @Edges.Says("and take it along as far as one likes: the least minute at which it can be there.")
    private static void p20_fromOneTripToAnother() {
        DownOnly x = Edges.told("room 3;room 2;room 1;flight 0 1 5;flight 1 2 5");
        x.trip(1, 4, 2);
        x.trip(0, 0, 1);
        due(x.brought(0, 0, 2), -2);
        x.trip(1, 9, 2);
        due(x.brought(0, 0, 2), 14);
        x.trip(1, 5, 2);
        due(x.brought(0, 0, 2), 10);
        x.trip(0, 2, 1);
        due(x.brought(0, 1, 2), 14);
        due(x.brought(0, 2, 1), 7);
    }

    @Edges.Says("and take it along as far as one likes: the least minute at which it can be there.")
    private static void p20_byAChainOfAsManyTripsAsThereAre() {
        StringBuilder s = new StringBuilder("room12");
        for (int k = 0; k < 12; k++) {
            s.append(";room").append(11 - k);
        }
        for (int k = 0; k < 12; k++) {
            s.append(";flight").append(k).append(' ').append(k + 1).append(" 1");
        }
        DownOnly x = Edges.told(s.toString());
        // told from the last to the first, so that each brings what a later one has brought
        for (int k = 11; k >= 0; k--) {
            x.trip(k, k, k + 1);
        }
        due(x.brought(0, 0, 12), 12);
        due(x.brought(0, 1, 12), -2);
        due(x.brought(3, 3, 12), 12);
    }

    @Edges.Says("BROUGHT; -2: not today;")
    private static void p20_notToday() {
        DownOnly x = Edges.told(HOUSE);
        due(x.brought(0, 0, 1), -2);
        x.trip(0, 0, 0);
        due(x.brought(0, 0, 1), -2);
        x.trip(0, 1434, 1);
        due(x.brought(0, 0, 1), 1439);
        due(x.brought(0, 1434, 1), 1439);
        due(x.brought(0, 1435, 1), -2);
        // the hoist brings nothing
        due(x.brought(2, 0, 0), -2);
    }

    @Edges.Says("BROUGHT: a thing that lies in a ROOM from a minute on, to another one: by TRIPS that are in the ROOM where it lies when they SET OFF (or begin) there, not ahead of it,")
    private static void p20_aTripByNoWayBringsNothing() {
        DownOnly x = Edges.told(HOUSE);
        x.trip(0, 100, 1);
        x.trip(0, 10, 0);
        x.trip(0, 40, 1);
        due(x.brought(0, 50, 0), 50);
        due(x.brought(0, 50, 1), 105);
        due(x.brought(0, 40, 1), 45);
        due(x.brought(1, 50, 0), -2);
    }

    @Edges.Says("BROUGHT; -2: not today;")
    private static void p20_whereItLiesTheMinuteGiven() {
        DownOnly x = Edges.told(HOUSE);
        due(x.brought(0, 0, 0), 0);
        due(x.brought(2, 1439, 2), 1439);
        x.trip(0, 0, 1);
        due(x.brought(0, 0, 0), 0);
        due(x.brought(1, 3, 1), 3);
    }

    @Edges.Says("`int brought(int room, int minute, int to)`: BROUGHT; -2: not today; NONE without these.")
    private static void p20_noneWithoutThese() {
        DownOnly x = Edges.told(HOUSE);
        due(x.brought(3, 0, 0), -1);
        due(x.brought(0, 0, 3), -1);
        for (int room : Edges.NEVER) {
            due(x.brought(room, 0, 0), -1);
            due(x.brought(0, 0, room), -1);
        }
        for (int minute : Edges.NO_MINUTES) {
            due(x.brought(0, minute, 0), -1);
        }
        due(new DownOnly().brought(0, 0, 0), -1);
    }
}
