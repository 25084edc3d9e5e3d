/** Boundary sentences of promises 6 to 11: what is asked of ROOMS, WAYS and PEOPLE, and how the minutes go by. */
public final class EdgesOfDaysTest {
    /** From the TOP down by a flight, then on by a passage with a door; a hoist with one seat. */
    private static final String HOUSE = "room 9;room 5;room 5;flight 0 1 5;passage 1 2 3;door 1 10 20;hoist 10 1 30;person 0;person 1";

    private EdgesOfDaysTest() {
    }

    public static void main(String[] args) {
        Edges.run(EdgesOfDaysTest.class);
    }

    private static void due(int got, int want) {
        Edges.due(got, want);
    }

    private static void due(boolean got, boolean want) {
        Edges.due(got, want);
    }

    // ---- promise 6: room --------------------------------------------------------------------------

    @Edges.Says("Of a ROOM what 0: HEIGHT,")
    private static void p06_theHeightFrom0To40() {
        DownOnly x = Edges.told("room 40;room 0;room 7");
        due(x.room(0, 0), 40);
        due(x.room(1, 0), 0);
        due(x.room(2, 0), 7);
    }

    @Edges.Says("1: PEOPLE in it, as bits,")
    private static void p06_peopleInItNobodyToAllEight() {
        DownOnly x = Edges.told("room 1;room 0;" + Edges.times("person 1", 8, ";"));
        due(x.room(0, 1), 0);
        due(x.room(1, 1), 255);
        DownOnly y = Edges.told("room 1;room 0;person 1;person 0;person 1");
        due(y.room(0, 1), 2);
        due(y.room(1, 1), 5);
    }

    @Edges.Says("1: PEOPLE in it, as bits,")
    private static void p06_whoIsOnTheWayIsInNoRoom() {
        DownOnly x = Edges.told("room 1;room 0;flight 0 1 2;person 0;person 0", "wait");
        x.go(0, 0);
        due(x.room(0, 1), 2);
        due(x.room(1, 1), 0);
        x.tick(0, 1);
        due(x.room(1, 1), 0);
        x.tick(0, 1);
        due(x.room(1, 1), 1);
    }

    @Edges.Says("2: 1 if it is the TOP, else 0.")
    private static void p06_1IfItIsTheTopElse0() {
        DownOnly x = Edges.told("room 0;room 3;room 3");
        due(x.room(0, 2), 0);
        due(x.room(1, 2), 1);
        due(x.room(2, 2), 0);
        due(Edges.told("room 0").room(0, 2), 1);
    }

    @Edges.Says("`int room(int room, int what)`: Of a ROOM what 0: HEIGHT, 1: PEOPLE in it, as bits, 2: 1 if it is the TOP, else 0. NONE without these.")
    private static void p06_noneWithoutThese() {
        DownOnly x = Edges.told(HOUSE);
        for (int what = 0; what <= 2; what++) {
            due(x.room(3, what), -1);
            due(x.room(16, what), -1);
            due(new DownOnly().room(0, what), -1);
            for (int room : Edges.NEVER) {
                due(x.room(room, what), -1);
            }
        }
        due(x.room(0, 3), -1);
        for (int what : Edges.NEVER) {
            due(x.room(0, what), -1);
        }
    }

    // ---- promise 7: way ---------------------------------------------------------------------------

    @Edges.Says("Of a WAY what 0, 1: from, to, 2: MINUTES, 3: 1 if a passage, else 0, 4, 5: its door from, till")
    private static void p07_whatIsAskedOfAWay() {
        DownOnly x = Edges.told("room 9;room 5;room 5;flight 0 2 60;passage 2 1 1;door 0 0 1439;door 1 7 7");
        int[][] want = {{0, 2, 60, 0, 0, 1439}, {2, 1, 1, 1, 7, 7}};
        for (int way = 0; way < 2; way++) {
            for (int what = 0; what <= 5; what++) {
                due(x.way(way, what), want[way][what]);
            }
        }
    }

    @Edges.Says("(NONE: it has none).")
    private static void p07_noneIfItHasNoDoor() {
        DownOnly x = Edges.told("room 9;room 5;flight 0 1 60;flight 0 1 60;door 1 0 0");
        due(x.way(0, 4), -1);
        due(x.way(0, 5), -1);
        due(x.way(1, 4), 0);
        due(x.way(1, 5), 0);
    }

    @Edges.Says("`int way(int way, int what)`: Of a WAY what 0, 1: from, to, 2: MINUTES, 3: 1 if a passage, else 0, 4, 5: its door from, till (NONE: it has none). -2 without these.")
    private static void p07_minus2WithoutThese() {
        DownOnly x = Edges.told(HOUSE);
        for (int what = 0; what <= 5; what++) {
            due(x.way(2, what), -2);
            due(x.way(24, what), -2);
            due(new DownOnly().way(0, what), -2);
            due(Edges.told("room 1").way(0, what), -2);
            for (int way : Edges.NEVER) {
                due(x.way(way, what), -2);
            }
        }
        due(x.way(0, 6), -2);
        for (int what : Edges.NEVER) {
            due(x.way(0, what), -2);
        }
    }

    // ---- promise 8: person ------------------------------------------------------------------------

    @Edges.Says("Of a PERSON what 0: ROOM (NONE: on the way), 1: HOME, 2: 1 if he has ridden, else 0,")
    private static void p08_theRoomOrNoneOnTheWay() {
        DownOnly x = Edges.told(HOUSE, "wait");
        due(x.person(0, 0), 0);
        x.go(0, 0);
        due(x.person(0, 0), -1);
        x.tick(0, 4);
        due(x.person(0, 0), -1);
        x.tick(0, 1);
        due(x.person(0, 0), 1);
        due(x.person(0, 1), 0);
        due(x.person(0, 2), 0);
    }

    @Edges.Says("Of a PERSON what 0: ROOM (NONE: on the way), 1: HOME, 2: 1 if he has ridden, else 0,")
    private static void p08_1IfHeHasRiddenElse0() {
        DownOnly x = Edges.told(HOUSE, "wait");
        due(x.person(1, 2), 0);
        x.go(1, 24);
        due(x.person(1, 2), 1);
        due(x.person(1, 0), -1);
        x.tick(0, 10);
        due(x.person(1, 2), 1);
        due(x.person(1, 0), 0);
        due(x.person(1, 1), 1);
        due(x.person(0, 2), 0);
    }

    @Edges.Says("3: the ROOM to which he comes (NONE: he is in one), 4: the minute at which he comes there (NONE).")
    private static void p08_whereToAndWhenOrNone() {
        DownOnly x = Edges.told(HOUSE, "wait");
        due(x.person(0, 3), -1);
        due(x.person(0, 4), -1);
        x.tick(0, 7);
        x.go(0, 0);
        due(x.person(0, 3), 1);
        due(x.person(0, 4), 12);
        x.tick(0, 4);
        due(x.person(0, 3), 1);
        due(x.person(0, 4), 12);
        x.tick(0, 1);
        due(x.person(0, 3), -1);
        due(x.person(0, 4), -1);
    }

    @Edges.Says("3: the ROOM to which he comes (NONE: he is in one), 4: the minute at which he comes there (NONE).")
    private static void p08_beyondTheDaysEnd() {
        DownOnly x = Edges.told("room 9;room 5;flight 0 1 60;person 0", "wait");
        x.tick(0, 1439);
        x.go(0, 0);
        x.tick(0, 1);
        due(x.person(0, 0), -1);
        due(x.person(0, 3), 1);
        due(x.person(0, 4), 1499);
    }

    @Edges.Says("`int person(int person, int what)`: Of a PERSON what 0: ROOM (NONE: on the way), 1: HOME, 2: 1 if he has ridden, else 0, 3: the ROOM to which he comes (NONE: he is in one), 4: the minute at which he comes there (NONE). -2 without these.")
    private static void p08_minus2WithoutThese() {
        DownOnly x = Edges.told(HOUSE);
        for (int what = 0; what <= 4; what++) {
            due(x.person(2, what), -2);
            due(x.person(8, what), -2);
            due(new DownOnly().person(0, what), -2);
            due(Edges.told("room 1").person(0, what), -2);
            for (int person : Edges.NEVER) {
                due(x.person(person, what), -2);
            }
        }
        due(x.person(0, 5), -2);
        for (int what : Edges.NEVER) {
            due(x.person(0, what), -2);
        }
    }

    // ---- promise 9: go ----------------------------------------------------------------------------

    @Edges.Says("BY HAND: a PERSON SETS OFF by a WAY (24: he rides): true;")
    private static void p09_heSetsOffOrRides() {
        DownOnly x = Edges.told(HOUSE, "wait");
        due(x.go(0, 0), true);
        due(x.person(0, 3), 1);
        due(x.person(0, 4), 5);
        due(x.person(0, 2), 0);
        due(x.go(1, 24), true);
        due(x.person(1, 3), 0);
        due(x.person(1, 4), 10);
        due(x.person(1, 2), 1);
        due(x.count(4), 0);
    }

    @Edges.Says("BY HAND a PERSON who is in a ROOM SETS OFF, or rides, as in (1), in the minute NOW.")
    private static void p09_whoIsOnTheWayCant() {
        DownOnly x = Edges.told("room 9;room 5;flight 0 1 5;hoist 10 9 1;person 0;person 0", "wait");
        x.go(0, 0);
        Edges.refused(x, y -> Edges.asInt(y.go(0, 0)), 0);
        due(x.go(0, 24), false);
        due(x.person(0, 2), 0);
        x.tick(0, 4);
        due(x.go(0, 24), false);
        x.tick(0, 1);
        due(x.go(0, 24), true);
    }

    @Edges.Says("BY HAND a PERSON who is in a ROOM SETS OFF, or rides, as in (1), in the minute NOW.")
    private static void p09_inTheMinuteNow() {
        DownOnly x = Edges.told(HOUSE, "wait");
        x.tick(0, 60);
        due(x.go(1, 24), true);
        due(x.person(1, 4), 70);
        due(x.go(0, 0), true);
        due(x.person(0, 4), 65);
    }

    @Edges.Says("false, and nothing happens, without these,")
    private static void p09_falseWithoutThese() {
        DownOnly x = Edges.told(HOUSE);
        Edges.refused(x, y -> Edges.asInt(y.go(2, 0)), 0);
        Edges.refused(x, y -> Edges.asInt(y.go(0, 2)), 0);
        due(x.go(0, 23), false);
        due(x.go(0, 25), false);
        due(x.go(8, 24), false);
        due(x.go(2, 24), false);
        for (int k : Edges.NEVER) {
            due(x.go(k, 0), false);
            due(x.go(k, 24), false);
            due(x.go(0, k), false);
        }
        due(x.room(0, 1), 1);
        due(new DownOnly().go(0, 0), false);
        due(new DownOnly().go(0, 24), false);
    }

    @Edges.Says("or if he can't (also at 1440).")
    private static void p09_falseIfHeCant() {
        DownOnly x = Edges.told(HOUSE, "wait");
        // a flight up, a way from elsewhere, a closed door
        Edges.refused(x, y -> Edges.asInt(y.go(1, 0)), 0);
        Edges.refused(x, y -> Edges.asInt(y.go(0, 1)), 0);
        due(x.go(1, 1), false);
        DownOnly none = Edges.told("room 9;room 5;flight 0 1 5;person 0");
        Edges.refused(none, y -> Edges.asInt(y.go(0, 24)), 0);
    }

    @Edges.Says("or if he can't (also at 1440).")
    private static void p09_falseAt1440() {
        DownOnly x = Edges.told("room 9;room 5;flight 0 1 5;hoist 1 9 1;person 0;person 0;person 0", "wait");
        x.tick(0, 1439);
        due(x.go(0, 0), true);
        due(x.go(1, 24), true);
        x.tick(0, 1);
        Edges.refused(x, y -> Edges.asInt(y.go(2, 0)), 0);
        due(x.go(2, 24), false);
        due(x.person(2, 0), 0);
        due(x.person(2, 2), 0);
    }

    @Edges.Says("A WAY can be SET OFF by in a minute in which it is open (or it has no door),")
    private static void p09_openInItsMinutesAlone() {
        DownOnly x = Edges.told("room 1;room 0;flight 0 1 60;door 0 5 6;person 0;person 0;person 0", "wait");
        due(x.go(0, 0), false);
        x.tick(0, 4);
        due(x.go(0, 0), false);
        x.tick(0, 1);
        due(x.go(0, 0), true);
        x.tick(0, 1);
        due(x.go(1, 0), true);
        x.tick(0, 1);
        due(x.go(2, 0), false);
    }

    @Edges.Says("it is open in these, both counted;")
    private static void p09_aDoorOfOneMinute() {
        DownOnly x = Edges.told("room 1;room 0;flight 0 1 1;flight 0 1 1;door 0 0 0;door 1 1439 1439;person 0;person 0", "wait");
        due(x.go(0, 1), false);
        due(x.go(0, 0), true);
        x.tick(0, 1);
        due(x.go(1, 0), false);
        x.tick(0, 1437);
        due(x.go(1, 1), false);
        x.tick(0, 1);
        due(x.go(1, 1), true);
    }

    @Edges.Says("always without)")
    private static void p09_alwaysOpenWithoutADoor() {
        DownOnly x = Edges.told("room 1;room 1;passage 0 1 1;person 0", "take 0");
        due(x.go(0, 0), true);
        x.tick(0, 1439);
        due(x.person(0, 0), 1);
        due(x.go(0, 0), true);
    }

    @Edges.Says("from where it begins (a passage from either end);")
    private static void p09_fromWhereItBegins() {
        DownOnly x = Edges.told("room 3;room 3;room 0;passage 0 1 5;flight 0 2 5;person 0;person 1;person 2;person 1");
        due(x.go(0, 0), true);
        due(x.person(0, 3), 1);
        due(x.go(1, 0), true);
        due(x.person(1, 3), 0);
        due(x.go(2, 0), false);
        due(x.go(2, 1), false);
        due(x.go(3, 1), false);
    }

    @Edges.Says("MINUTES later one is at its other end.")
    private static void p09_minutesLaterAtItsOtherEnd() {
        DownOnly x = Edges.told("room 1;room 0;flight 0 1 1;flight 0 1 60;person 0;person 0", "wait");
        x.go(0, 0);
        x.go(1, 1);
        x.tick(0, 1);
        due(x.person(0, 0), 1);
        x.tick(0, 58);
        due(x.person(1, 0), -1);
        x.tick(0, 1);
        due(x.person(1, 0), 1);
    }

    @Edges.Says("The hoist LEAVES in minutes that are a multiple of its every;")
    private static void p09_theHoistLeavesAtMultiples() {
        DownOnly x = Edges.told("room 1;room 0;hoist 60 9 120;person 1;person 1;person 1", "wait");
        due(x.go(0, 24), true);
        x.tick(0, 1);
        due(x.go(1, 24), false);
        x.tick(0, 118);
        due(x.go(1, 24), false);
        x.tick(0, 1);
        due(x.go(1, 24), true);
        x.tick(0, 1200);
        due(x.count(4), 1320);
        due(x.go(2, 24), true);
        due(x.person(2, 4), 1380);
    }

    @Edges.Says("The hoist LEAVES in minutes that are a multiple of its every;")
    private static void p09_aHoistEveryMinute() {
        DownOnly x = Edges.told("room 1;room 0;hoist 1 1 1;person 1;person 1;person 1", "ride");
        x.tick(0, 3);
        due(x.room(0, 1), 7);
        DownOnly y = Edges.told("room 1;room 0;hoist 1 1 1;person 1", "wait");
        y.tick(0, 1439);
        due(y.go(0, 24), true);
    }

    @Edges.Says("who rides is at the TOP its MINUTES later;")
    private static void p09_whoRidesIsAtTheTopItsMinutesLater() {
        DownOnly x = Edges.told("room 1;room 9;room 9;hoist 60 9 120;person 0;person 1;person 2", "wait");
        due(x.go(0, 24), true);
        due(x.go(1, 24), true);
        due(x.go(2, 24), true);
        x.tick(0, 59);
        due(x.room(1, 1), 0);
        x.tick(0, 1);
        due(x.room(1, 1), 7);
    }

    @Edges.Says("each rides once a day.")
    private static void p09_eachRidesOnceADay() {
        DownOnly x = Edges.told("room 1;room 0;hoist 1 9 1;person 1;person 1", "wait");
        due(x.go(0, 24), true);
        x.tick(0, 1);
        Edges.refused(x, y -> Edges.asInt(y.go(0, 24)), 0);
        x.tick(0, 1000);
        due(x.go(0, 24), false);
        due(x.go(1, 24), true);
    }

    @Edges.Says("a seat is left (of those who ride in this minute);")
    private static void p09_noSeatIsLeftInThisMinute() {
        DownOnly x = Edges.told("room 1;room 0;hoist 1 2 1;person 1;person 1;person 1;person 1;person 1", "wait", "ride");
        due(x.go(3, 24), true);
        due(x.go(1, 24), true);
        Edges.refused(x, y -> Edges.asInt(y.go(0, 24)), 0);
        // in the same minute none is left for those who go by a RULE either
        x.tick(1, 1);
        due(x.person(0, 2), 0);
        due(x.person(2, 2), 0);
        due(x.person(4, 2), 0);
        // in the next one there are two again, and no more
        due(x.go(0, 24), true);
        due(x.go(2, 24), true);
        due(x.go(4, 24), false);
    }

    @Edges.Says("a seat is left (of those who ride in this minute);")
    private static void p09_nineSeatsForAllEight() {
        DownOnly x = Edges.told("room 1;room 0;hoist 1 9 1;" + Edges.times("person 1", 8, ";"), "ride");
        x.tick(0, 1);
        due(x.room(0, 1), 255);
        DownOnly y = Edges.told("room 1;room 0;hoist 1 7 1;" + Edges.times("person 1", 8, ";"), "ride");
        y.tick(0, 1);
        due(y.room(0, 1), 127);
        due(y.room(1, 1), 128);
    }

    @Edges.Says("a seat is left (of those who ride in this minute);")
    private static void p09_asManySeatsInEachMinute() {
        DownOnly x = Edges.told("room 1;room 0;hoist 9 3 5;" + Edges.times("person 1", 8, ";"), "ride");
        x.tick(0, 1);
        due(x.room(1, 1), 248);
        x.tick(0, 5);
        due(x.room(1, 1), 192);
        x.tick(0, 5);
        due(x.room(1, 1), 0);
    }

    // ---- promise 10: tick -------------------------------------------------------------------------

    @Edges.Says("So many MINUTES (1 to 1440; also without a HOUSE) by a RULE: NOW;")
    private static void p10_1To1440Minutes() {
        DownOnly x = Edges.told(HOUSE, "wait");
        due(x.tick(0, 1), 1);
        due(x.tick(0, 1439), 1440);
        DownOnly y = Edges.told(HOUSE, "wait");
        due(y.tick(0, 1440), 1440);
        due(y.count(4), 1440);
    }

    @Edges.Says("So many MINUTES (1 to 1440; also without a HOUSE) by a RULE: NOW;")
    private static void p10_alsoWithoutAHouse() {
        DownOnly x = Edges.told("", "take 0;ride if here=1");
        due(x.tick(0, 1), 1);
        due(x.count(4), 1);
        due(x.tick(0, 1440), -1);
        due(x.tick(0, 1439), 1440);
        due(x.tick(0, 1), -1);
        due(Texts.house(x, "room 1"), 1);
        due(x.tick(0, 1440), 1440);
    }

    @Edges.Says("NONE, and nothing happens, without these,")
    private static void p10_noneWithoutTheseMinutes() {
        DownOnly x = Edges.told(HOUSE, "take 0");
        Edges.refused(x, y -> y.tick(0, 0), -1);
        Edges.refused(x, y -> y.tick(0, 1441), -1);
        due(x.tick(0, -1), -1);
        due(x.tick(0, Edges.LEAST), -1);
        due(x.tick(0, Edges.MOST), -1);
        due(x.count(4), 0);
        due(x.person(0, 0), 0);
    }

    @Edges.Says("NONE, and nothing happens, without these,")
    private static void p10_noneWithoutTheRule() {
        DownOnly x = Edges.told(HOUSE, "take 0", "take 0");
        Edges.refused(x, y -> y.tick(2, 1), -1);
        due(x.tick(5, 1), -1);
        due(x.tick(6, 1), -1);
        for (int rule : Edges.NEVER) {
            due(x.tick(rule, 1), -1);
        }
        due(x.count(4), 0);
        due(x.person(0, 0), 0);
        due(Edges.told(HOUSE).tick(0, 1), -1);
    }

    @Edges.Says("or if NOW would be above 1440.")
    private static void p10_noneIfNowWouldBeAbove1440() {
        DownOnly x = Edges.told(HOUSE, "wait", "take 0");
        x.tick(0, 1000);
        Edges.refused(x, y -> y.tick(1, 441), -1);
        due(x.tick(1, 1440), -1);
        due(x.tick(0, 440), 1440);
        due(x.tick(0, 1), -1);
        due(x.count(4), 1440);
    }

    @Edges.Says("1440 at most.")
    private static void p10_nowIs1440AtMost() {
        DownOnly x = Edges.told(HOUSE, "wait");
        due(x.tick(0, 1439), 1439);
        due(x.tick(0, 2), -1);
        due(x.tick(0, 1), 1440);
        Edges.refused(x, y -> y.tick(0, 1), -1);
    }

    @Edges.Says("A MINUTE by a RULE: (1) PEOPLE, by their numbers, who are in a ROOM:")
    private static void p10_peopleByTheirNumbers() {
        DownOnly x = Edges.told("room 1;room 0;flight 0 1 9;person 0;person 0;person 0", "take 0 if here > 1");
        x.tick(0, 1);
        due(x.room(0, 1), 4);
        DownOnly y = Edges.told("room 1;room 0;hoist 9 1 9;person 1;person 1;person 1", "ride");
        y.tick(0, 1);
        due(y.room(1, 1), 6);
    }

    @Edges.Says("A MINUTE by a RULE: (1) PEOPLE, by their numbers, who are in a ROOM:")
    private static void p10_whoIsOnTheWayGoesByNoRule() {
        DownOnly x = Edges.told("room 1;room 0;flight 0 1 9;hoist 1 9 1;person 0", "ride", "take 0");
        x.go(0, 0);
        x.tick(0, 8);
        due(x.person(0, 2), 0);
        due(x.person(0, 4), 9);
        x.tick(1, 1);
        due(x.person(0, 0), 1);
        x.tick(0, 1);
        due(x.person(0, 2), 1);
    }

    @Edges.Says("of CLAUSES without a TEST, or whose TEST holds, the first that he can do he does:")
    private static void p10_theFirstClauseThatHeCanDo() {
        DownOnly x = Edges.told("room 1;room 0;room 0;flight 0 1 9;flight 0 2 7;door 0 5 9;hoist 60 1 7;person 0",
                "take 0;take 1 if now=1;ride;take 1", "take 0 if now=0;wait if now=0;take 1", "ride if rode=1;take 2;take 1;take 0");
        x.image(0);
        // the door is closed, the test does not hold, but the hoist leaves
        x.tick(0, 1);
        due(x.person(0, 4), 60);
        x.back(0);
        x.tick(1, 1);
        due(x.person(0, 0), 0);
        x.tick(1, 1);
        due(x.person(0, 4), 8);
        x.back(0);
        x.tick(2, 1);
        due(x.person(0, 4), 7);
    }

    @Edges.Says("take: SETS OFF;")
    private static void p10_takeWhereHeCanSetOff() {
        DownOnly x = Edges.told("room 1;room 0;flight 0 1 9;door 0 3 3;person 0;person 1", "take 0");
        x.tick(0, 3);
        due(x.room(0, 1), 1);
        x.tick(0, 1);
        due(x.person(0, 4), 12);
        due(x.person(1, 0), 1);
        DownOnly y = Edges.told("room 1;room 0;flight 0 1 9;door 0 3 3;person 0", "take 0", "wait");
        y.tick(1, 4);
        y.tick(0, 1436);
        due(y.person(0, 0), 0);
    }

    @Edges.Says("ride: the hoist LEAVES, he has not ridden,")
    private static void p10_rideIfTheHoistLeavesAndHeHasNotRidden() {
        DownOnly x = Edges.told("room 1;room 0;flight 0 1 1;hoist 2 9 5;person 1", "ride;take 0", "wait");
        x.tick(1, 1);
        x.tick(0, 4);
        due(x.person(0, 2), 0);
        x.tick(0, 1);
        due(x.person(0, 4), 7);
        // at 7 he is on top, goes down by 8 and can't ride any more at 10
        x.tick(0, 4);
        due(x.person(0, 0), 1);
        x.tick(0, 100);
        due(x.person(0, 0), 1);
        DownOnly none = Edges.told("room 1;room 0;person 1", "ride");
        none.tick(0, 1440);
        due(none.person(0, 0), 1);
    }

    @Edges.Says("wait: he waits. None: he waits.")
    private static void p10_waitsByAClauseOrByNone() {
        DownOnly x = Edges.told("room 1;room 0;flight 0 1 9;person 0", "wait;take 0", "take 0 if 1=2", "ride;take 5");
        x.tick(0, 9);
        x.tick(1, 9);
        x.tick(2, 9);
        due(x.person(0, 0), 0);
        due(x.count(4), 27);
    }

    @Edges.Says("One can wait in a ROOM.")
    private static void p10_oneCanWaitInARoomAllDay() {
        DownOnly x = Edges.told("room 1;room 0;flight 0 1 9;person 0", "wait");
        x.tick(0, 1440);
        due(x.person(0, 0), 0);
        due(x.soonest(0, 0, 0, false), 0);
    }

    @Edges.Says("(2) NOW is 1 more; PEOPLE on a WAY or in the hoist whose MINUTES are over are at its end from then on")
    private static void p10_whoseMinutesAreOverIsAtItsEnd() {
        DownOnly x = Edges.told("room 1;room 1;room 0;passage 0 1 1;flight 1 2 2;hoist 3 9 4;person 0", "take 0 if room=0;take 1;ride");
        x.tick(0, 1);
        due(x.person(0, 0), 1);
        x.tick(0, 1);
        due(x.person(0, 0), -1);
        x.tick(0, 1);
        due(x.person(0, 0), 2);
        x.tick(0, 1);
        due(x.person(0, 0), 2);
        x.tick(0, 1);
        due(x.person(0, 4), 7);
        x.tick(0, 2);
        due(x.person(0, 0), 0);
        due(x.count(4), 7);
    }

    @Edges.Says("(not at 1440: who would come then, or later, is on the way till the end).")
    private static void p10_whoWouldComeAt1440IsOnTheWay() {
        DownOnly x = Edges.told("room 1;room 0;flight 0 1 2;hoist 2 9 1;person 0;person 0;person 0;person 1",
                "take 0 if person=0 and now=1437;take 0 if person=1 and now=1438;take 0 if person=2 and now=1439;ride if person=3 and now=1438");
        x.tick(0, 1439);
        due(x.person(0, 0), 1);
        due(x.person(1, 4), 1440);
        x.tick(0, 1);
        due(x.person(0, 0), 1);
        due(x.person(1, 0), -1);
        due(x.person(1, 3), 1);
        due(x.person(1, 4), 1440);
        due(x.person(2, 0), -1);
        due(x.person(2, 4), 1441);
        due(x.person(3, 0), -1);
        due(x.person(3, 4), 1440);
    }

    // ---- promise 11: ahead ------------------------------------------------------------------------

    @Edges.Says("AHEAD, by a RULE till NOW is 1440 (nothing changes): how many are HOME, how many on the way, how many have ridden.")
    private static void p11_aheadTill1440() {
        DownOnly x = Edges.told("room 1;room 0;flight 0 1 1;hoist 1 9 1;person 0;person 0;person 0",
                "take 0 if person=0 and now=1438;take 0 if person=1 and now=1439;ride if now=1438 and person=2", "take 0 if now=1440", "wait");
        due(x.ahead(0, 0), 1);
        due(x.ahead(0, 1), 1);
        due(x.ahead(0, 2), 1);
        due(x.ahead(1, 0), 3);
        due(x.ahead(1, 1), 0);
        due(x.ahead(2, 2), 0);
    }

    @Edges.Says("AHEAD, by a RULE till NOW is 1440 (nothing changes): how many are HOME, how many on the way, how many have ridden.")
    private static void p11_nothingChanges() {
        DownOnly x = Edges.told(HOUSE, "ride;take 0;take 1");
        Edges.refused(x, y -> y.ahead(0, 2), 2);
        x.go(0, 0);
        Edges.refused(x, y -> y.ahead(0, 0), 1);
    }

    @Edges.Says("AHEAD, by a RULE till NOW is 1440 (nothing changes): how many are HOME, how many on the way, how many have ridden.")
    private static void p11_at1440AsItIs() {
        DownOnly x = Edges.told("room 1;room 0;flight 0 1 1;hoist 1 9 1;person 0;person 0;person 1", "wait", "ride;take 0");
        x.go(2, 24);
        x.tick(0, 1439);
        x.go(0, 0);
        x.tick(0, 1);
        due(x.ahead(1, 0), 1);
        due(x.ahead(1, 1), 1);
        due(x.ahead(1, 2), 1);
    }

    @Edges.Says("AHEAD, by a RULE till NOW is 1440 (nothing changes): how many are HOME, how many on the way, how many have ridden.")
    private static void p11_seatsTakenInThisMinuteAreTaken() {
        DownOnly x = Edges.told("room 1;room 0;hoist 1 1 120;person 1;person 1", "ride if now=0");
        due(x.ahead(0, 2), 1);
        x.go(1, 24);
        due(x.ahead(0, 2), 1);
        due(x.ahead(0, 0), 1);
    }

    @Edges.Says("AHEAD what 0: HOME, 1: on the way, 2: how many have ridden (0 without a HOUSE);")
    private static void p11_0WithoutAHouse() {
        DownOnly x = Edges.told("", "wait", "ride");
        for (int what = 0; what <= 2; what++) {
            due(x.ahead(0, what), 0);
            due(x.ahead(1, what), 0);
        }
        x.tick(0, 1440);
        for (int what = 0; what <= 2; what++) {
            due(x.ahead(0, what), 0);
        }
    }

    @Edges.Says("AHEAD what 0: HOME, 1: on the way, 2: how many have ridden (0 without a HOUSE);")
    private static void p11_nobodyAndAllEight() {
        DownOnly nobody = Edges.told("room 1", "wait");
        for (int what = 0; what <= 2; what++) {
            due(nobody.ahead(0, what), 0);
        }
        DownOnly eight = Edges.told("room 1;room 0;flight 0 1 60;hoist 60 9 1;" + Edges.times("person 0", 8, ";"),
                "wait", "take 0 if now=1380", "ride if now=0");
        due(eight.ahead(0, 0), 8);
        due(eight.ahead(1, 1), 8);
        due(eight.ahead(2, 2), 8);
        due(eight.ahead(2, 0), 8);
    }

    @Edges.Says("`int ahead(int rule, int what)`: AHEAD what 0: HOME, 1: on the way, 2: how many have ridden (0 without a HOUSE); NONE without these.")
    private static void p11_noneWithoutThese() {
        DownOnly x = Edges.told(HOUSE, "wait");
        due(x.ahead(1, 0), -1);
        due(x.ahead(6, 0), -1);
        due(x.ahead(0, 3), -1);
        for (int k : Edges.NEVER) {
            due(x.ahead(k, 0), -1);
            due(x.ahead(0, k), -1);
        }
        due(new DownOnly().ahead(0, 0), -1);
        DownOnly noHouse = Edges.told("", "wait");
        due(noHouse.ahead(1, 0), -1);
        due(noHouse.ahead(-1, 0), -1);
        due(noHouse.ahead(0, 3), -1);
        due(noHouse.ahead(0, -1), -1);
    }
}
