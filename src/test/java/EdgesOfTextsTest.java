/** Boundary sentences of promises 1 to 3 and 4 (the text of a HOUSE, and what it changes). */
public final class EdgesOfTextsTest {
    /** Two ROOMS, a flight, a hoist and a PERSON below. */
    private static final String SMALL = "room 3;room 1;flight 0 1 5;hoist 10 1 30;person 1";

    private EdgesOfTextsTest() {
    }

    public static void main(String[] args) {
        Edges.run(EdgesOfTextsTest.class);
    }

    private static void due(int got, int want) {
        Edges.due(got, want);
    }

    private static void due(boolean got, boolean want) {
        Edges.due(got, want);
    }

    // ---- promise 1: a new object ------------------------------------------------------------------

    @Edges.Says("`DownOnly()`: No HOUSE,")
    private static void p01_noHouse() {
        DownOnly x = new DownOnly();
        due(x.count(0), 0);
        due(x.count(1), 0);
        due(x.count(2), 0);
        due(x.count(11), 0);
        due(x.count(12), 0);
        due(x.count(13), 0);
        due(x.room(0, 0), -1);
        due(x.way(0, 0), -2);
        due(x.person(0, 0), -2);
        due(x.go(0, 24), false);
        due(x.soonest(0, 0, 0, false), -1);
        due(x.beds(), -1);
    }

    @Edges.Says("no RULES.")
    private static void p01_noRules() {
        DownOnly x = new DownOnly();
        due(x.count(3), 0);
        due(x.tick(0, 1), -1);
        due(x.ahead(0, 0), -1);
        due(x.drawn(0, 1, 0), -1);
        due(Texts.rule(x, "wait"), 0);
    }

    @Edges.Says("NOW: a minute, 0 at first,")
    private static void p01_nowIs0AtFirst() {
        DownOnly x = new DownOnly();
        due(x.count(4), 0);
        due(x.image(0), 0);
    }

    @Edges.Says("The constants: `NONE = -1`: None.")
    private static void p01_theConstantNoneIsMinus1() {
        due(DownOnly.NONE, -1);
    }

    @Edges.Says("An object is used for at most 512 calls after it has been made; what later calls answer is free.")
    private static void p01_its512CallsAreAnswered() {
        DownOnly x = new DownOnly();
        for (int k = 0; k < 255; k++) {
            due(x.seed(k + 1), k);
            due(x.end(0), 0);
        }
        due(x.seed(7), 255);
        due(x.count(9), 7);
    }

    // ---- promise 2: feed --------------------------------------------------------------------------

    @Edges.Says("Twenty bytes come behind the TAPE,")
    private static void p02_theyComeBehindTheTape() {
        DownOnly x = new DownOnly();
        x.feed(0x726f6f6d, 0x20353b72, 0x6f6f6d20, 0x343b7065, 0x72736f6e); // room 5;room 4;person
        x.feed(0x20310000, 0, 0, 0, 0); // 1
        due(x.end(22), 22);
        due(x.house(), 2);
        due(x.room(0, 0), 5);
        due(x.room(1, 0), 4);
        due(x.person(0, 1), 1);
    }

    @Edges.Says("of each number the highest first:")
    private static void p02_ofEachNumberTheHighestByteFirst() {
        for (int place = 0; place < 20; place++) {
            int[] n = {0x20202020, 0x20202020, 0x20202020, 0x20202020, 0x20202020};
            // a byte 129 among blanks shows by its FAULT where it has come to
            n[place / 4] += 0x61 << 24 - 8 * (place % 4);
            DownOnly x = new DownOnly();
            x.feed(n[0], n[1], n[2], n[3], n[4]);
            due(x.house(), Edges.fault(place, 0));
        }
    }

    @Edges.Says("how many it has;")
    private static void p02_howManyItHas() {
        DownOnly x = new DownOnly();
        due(x.feed(0, 0, 0, 0, 0), 20);
        due(x.feed(-1, -1, -1, -1, -1), 40);
        due(x.end(7), 7);
        due(x.feed(Edges.LEAST, Edges.MOST, 0, 0, 0), 27);
        due(x.count(10), 27);
    }

    @Edges.Says("how many it has;")
    private static void p02_itMayHave400() {
        DownOnly x = new DownOnly();
        for (int k = 1; k <= 20; k++) {
            due(x.feed(0, 0, 0, 0, 0), 20 * k);
        }
        due(x.end(380), 380);
        due(x.feed(0, 0, 0, 0, 0), 400);
    }

    @Edges.Says("NONE, and none comes, if it would have more than 400.")
    private static void p02_noneIfItWouldHaveMoreThan400() {
        DownOnly x = new DownOnly();
        for (int k = 0; k < 20; k++) {
            x.feed(0, 0, 0, 0, 0);
        }
        due(x.feed(0, 0, 0, 0, 0), -1);
        due(x.count(10), 400);
        x.end(381);
        due(x.feed(0, 0, 0, 0, 0), -1);
        due(x.count(10), 381);
        x.end(380);
        due(x.feed(0, 0, 0, 0, 0), 400);
    }

    @Edges.Says("NONE, and none comes, if it would have more than 400.")
    private static void p02_noneComesThen() {
        DownOnly x = new DownOnly();
        Texts.tell(x, "room 1" + " ".repeat(375));
        due(x.count(10), 381);
        due(x.feed(-1, -1, -1, -1, -1), -1);
        due(x.house(), 1);
    }

    // ---- promise 3: end ---------------------------------------------------------------------------

    @Edges.Says("The TAPE has its first n bytes alone: n;")
    private static void p03_itHasItsFirstBytesAlone() {
        DownOnly x = new DownOnly();
        Texts.tell(x, "room 12;room 3");
        due(x.end(6), 6);
        due(x.count(10), 6);
        due(x.house(), 1);
        due(x.room(0, 0), 1);
    }

    @Edges.Says("The TAPE has its first n bytes alone: n;")
    private static void p03_whatWasCutOffIsGone() {
        DownOnly x = new DownOnly();
        Texts.tell(x, "room 12;room 3");
        due(x.end(6), 6);
        due(x.feed(0x3b726f6f, 0x6d203900, 0, 0, 0), 26); // ;room 9
        due(x.end(13), 13);
        due(x.house(), 2);
        due(x.room(0, 0), 1);
        due(x.room(1, 0), 9);
    }

    @Edges.Says("The TAPE has its first n bytes alone: n;")
    private static void p03_allAndNone() {
        DownOnly x = new DownOnly();
        x.feed(0, 0, 0, 0, 0);
        due(x.end(20), 20);
        due(x.count(10), 20);
        due(x.end(0), 0);
        due(x.count(10), 0);
        due(x.end(0), 0);
    }

    @Edges.Says("NONE, and nothing happens, if it has not so many,")
    private static void p03_noneIfItHasNotSoMany() {
        DownOnly x = new DownOnly();
        due(x.end(1), -1);
        x.feed(0, 0, 0, 0, 0);
        due(x.end(21), -1);
        due(x.end(Edges.MOST), -1);
        due(x.count(10), 20);
        x.end(7);
        due(x.end(8), -1);
        due(x.end(20), -1);
        due(x.count(10), 7);
    }

    @Edges.Says("NONE, and nothing happens, if it has not so many,")
    private static void p03_noneBeyondAFullTape() {
        DownOnly x = new DownOnly();
        for (int k = 0; k < 20; k++) {
            x.feed(0, 0, 0, 0, 0);
        }
        due(x.end(401), -1);
        due(x.count(10), 400);
        due(x.end(400), 400);
        due(x.end(399), 399);
    }

    @Edges.Says("or n is below 0.")
    private static void p03_noneIfNIsBelow0() {
        DownOnly x = new DownOnly();
        due(x.end(-1), -1);
        x.feed(0, 0, 0, 0, 0);
        due(x.end(-1), -1);
        due(x.end(Edges.LEAST), -1);
        due(x.count(10), 20);
    }

    // ---- promise 4: house, what it changes --------------------------------------------------------

    @Edges.Says("`int house()`: The TAPE, which is empty then,")
    private static void p04_theTapeIsEmptyThen() {
        DownOnly x = new DownOnly();
        Texts.tell(x, "room 3");
        due(x.house(), 1);
        due(x.count(10), 0);
        due(x.end(1), -1);
        due(x.feed(0, 0, 0, 0, 0), 20);
    }

    @Edges.Says("`int house()`: The TAPE, which is empty then,")
    private static void p04_theTapeIsEmptyWithAFaultToo() {
        DownOnly x = new DownOnly();
        Texts.tell(x, "room 41");
        due(x.house(), Edges.fault(5, 1));
        due(x.count(10), 0);
        due(x.house(), Edges.fault(0, 0));
        due(x.feed(0, 0, 0, 0, 0), 20);
    }

    @Edges.Says("is the HOUSE in place of the one there was")
    private static void p04_inPlaceOfTheOneThereWas() {
        DownOnly x = Edges.told("room 3;room 3;room 1;flight 0 2 5;passage 0 1 7;door 0 5 6;hoist 10 2 30;person 2;person 0");
        due(Texts.house(x, "room 2;room 7;flight 1 0 9;person 0"), 2);
        due(x.count(0), 2);
        due(x.count(1), 1);
        due(x.count(2), 1);
        due(x.count(11), 0);
        due(x.count(12), 0);
        due(x.count(13), 0);
        due(x.room(0, 0), 2);
        due(x.room(1, 2), 1);
        due(x.room(2, 0), -1);
        due(x.way(0, 0), 1);
        due(x.way(0, 2), 9);
        due(x.way(0, 4), -1);
        due(x.way(0, 5), -1);
        due(x.way(1, 0), -2);
        due(x.person(0, 1), 0);
        due(x.person(1, 0), -2);
        due(x.go(0, 24), false);
    }

    @Edges.Says("is the HOUSE in place of the one there was")
    private static void p04_nothingOfTheOneThereWasOrOfAFaultyOneStays() {
        DownOnly x = Edges.told("room 1;room 2;room 40;hoist 1 1 1;person 2");
        due(x.room(2, 2), 1);
        due(Texts.house(x, "room 5;room 3;person 0"), 2);
        due(x.room(0, 2), 1);
        due(x.room(1, 2), 0);
        due(Texts.house(x, "room 1;room 40;hoist 1 1 1;person 1;x"), Edges.fault(36, 0));
        due(Texts.house(x, "room 6;room 5;room 4;flight 0 1 5"), 3);
        due(x.room(0, 2), 1);
        due(x.room(1, 2), 0);
        due(x.count(2), 0);
        due(x.count(13), 0);
        due(Texts.house(x, "room 6;hoist 3 3 3"), 1);
        due(x.count(13), 3);
    }

    @Edges.Says("PEOPLE are in their HOMES at first.")
    private static void p04_peopleAreInTheirHomesAtFirst() {
        DownOnly x = Edges.told(SMALL + ";person 0", "wait");
        due(x.person(0, 0), 1);
        due(x.person(1, 0), 0);
        x.go(0, 24);
        x.go(1, 0);
        due(Texts.house(x, SMALL + ";person 0"), 2);
        due(x.person(0, 0), 1);
        due(x.person(0, 2), 0);
        due(x.person(0, 3), -1);
        due(x.person(0, 4), -1);
        due(x.person(1, 0), 0);
        due(x.go(0, 24), true);
    }

    /** A HOUSE at NOW 7 with one of each list, and x 99. */
    private static DownOnly full() {
        DownOnly x = Edges.told(SMALL, "wait");
        x.tick(0, 7);
        x.errand(0, 1, 2, 3);
        x.trip(0, 0, 1);
        x.rider(5);
        x.customer(1, 0);
        x.seed(99);
        return x;
    }

    @Edges.Says("(NOW 0, no ERRANDS, TRIPS;")
    private static void p04_now0() {
        DownOnly x = full();
        due(x.count(4), 7);
        Texts.house(x, "room 1");
        due(x.count(4), 0);
        due(x.tick(0, 1440), 1440);
        Texts.house(x, "room 1");
        due(x.count(4), 0);
        due(x.tick(0, 1440), 1440);
    }

    @Edges.Says("(NOW 0, no ERRANDS, TRIPS;")
    private static void p04_noErrandsTrips() {
        DownOnly x = full();
        due(x.count(5), 1);
        due(x.count(6), 1);
        Texts.house(x, SMALL);
        due(x.count(5), 0);
        due(x.count(6), 0);
        due(x.best(0, 0, true, 0), 0);
        due(x.trips(0, -1), -1);
        due(x.errand(0, 1, 2, 3), 0);
        due(x.trip(0, 0, 1), 1);
    }

    @Edges.Says("RIDERS, SHOPS, CUSTOMERS, x stay):")
    private static void p04_ridersShopsCustomersXStay() {
        DownOnly x = full();
        Texts.house(x, "room 1;hoist 1 1 20");
        due(x.count(7), 1);
        due(x.rides(0), 20);
        due(x.count(8), 1);
        due(x.order(2, 0), 1);
        due(x.order(2, 6), 1);
        due(x.count(9), 99);
    }

    @Edges.Says("IMAGES 0 to 3: all but the TAPE and the RULES, as it is;")
    private static void p04_rulesAndImagesStay() {
        DownOnly x = full();
        x.image(2);
        Texts.house(x, "room 1");
        due(x.count(3), 1);
        due(x.tick(0, 3), 3);
        due(x.back(2), 7);
        due(x.count(0), 2);
    }

    @Edges.Says("how many ROOMS;")
    private static void p04_howManyRooms() {
        Edges.houseIs("room 0", 1);
        Edges.houseIs("room 0;room 0;room 0", 3);
        Edges.houseIs(Edges.times("room 9", 16, ";"), 16);
    }

    @Edges.Says("-2 - its FAULT, and all stays.")
    private static void p04_withAFaultAllStays() {
        DownOnly x = full();
        x.go(0, 24);
        Edges.refused(x, y -> Texts.house(y, "room 41"), Edges.fault(5, 1));
        DownOnly z = full();
        Edges.refused(z, y -> Texts.house(y, "room 9;flight 0 0 5;person 0"), Edges.fault(16, 1));
    }

    @Edges.Says("-2 - its FAULT, and all stays.")
    private static void p04_withAFaultAtItsVeryEndAllStays() {
        DownOnly x = full();
        Edges.refused(x, y -> Texts.house(y, "room 9;room 0;flight 0 1 9;door 0 1 2;hoist 2 2 2;person 1;"), Edges.fault(59, 0));
        DownOnly z = full();
        Edges.refused(z, y -> Texts.house(y, "hoist 2 2 2"), Edges.fault(11, 0));
    }

    // ---- promise 4: house, its text ---------------------------------------------------------------

    @Edges.Says("A HOUSE is a text of at most 400 bytes:")
    private static void p04_aTextOf400Bytes() {
        Edges.houseIs("room 1" + " ".repeat(394), 1);
        Edges.houseIs(" ".repeat(394) + "room 9", 1);
        Edges.houseFault(" ".repeat(399) + "^x", 0);
        Edges.houseFault(" ".repeat(400) + "^", 0);
        Edges.houseFault(" ".repeat(396) + "room^", 0);
        Edges.houseFault("room 1" + " ".repeat(393) + ";^", 0);
    }

    @Edges.Says("CLAUSE { ; CLAUSE }, 40 at most:")
    private static void p04_40ClausesAtMost() {
        String forty = "room1;room0;flight0 1 1;" + Edges.times("door0 1 1", 37, ";");
        Edges.houseIs(forty, 2);
        // shorter clauses leave place for one more
        String other = Edges.times("room1", 15, ";") + ";room0;" + Edges.times("flight0 15 1", 15, ";") + ";"
                + Edges.times("person0", 8, ";") + ";hoist1 1 1";
        Edges.houseIs(other, 16);
        Edges.houseFault(other + ";^door0 1 1", 4);
        Edges.houseFault(other + ";^flight0 15 1", 4);
    }

    @Edges.Says("CLAUSE { ; CLAUSE }, 40 at most:")
    private static void p04_aClauseBetweenAnyTwoSigns() {
        Edges.houseFault("^;room 1", 0);
        Edges.houseFault("room 1;^;room 1", 0);
        Edges.houseFault("room 1;^", 0);
        Edges.houseFault("room 1 ^room 1", 0);
        Edges.houseFault("room 1^,room 1", 0);
    }

    @Edges.Says("room NUMBER (HEIGHT 0 to 40)")
    private static void p04_height0To40() {
        DownOnly x = Edges.told("room 0;room 40");
        due(x.room(0, 0), 0);
        due(x.room(1, 0), 40);
        Edges.houseFault("room ^41", 1);
        Edges.houseFault("room ^99999", 1);
        Edges.houseFault("room ^-1", 0);
    }

    @Edges.Says("| flight NUMBER NUMBER NUMBER (from a ROOM to one that is lower,")
    private static void p04_aFlightGoesToALowerRoom() {
        Edges.houseIs("room 3;room 2;flight 0 1 5", 2);
        Edges.houseIs("room 0;room 40;flight 1 0 5", 2);
        Edges.houseFault("room 3;room 2;flight 1 ^0 5", 1);
        Edges.houseFault("room 3;room 3;flight 0 ^1 5", 1);
        Edges.houseFault("room 3;room 3;flight 0 ^0 5", 1);
    }

    @Edges.Says("| flight NUMBER NUMBER NUMBER (from a ROOM to one that is lower,")
    private static void p04_aFlightHasThreeNumbers() {
        Edges.houseFault("room 3;room 2;flight^", 0);
        Edges.houseFault("room 3;room 2;flight 0^", 0);
        Edges.houseFault("room 3;room 2;flight 0 1^", 0);
        Edges.houseFault("room 3;room 2;flight ^;", 0);
        Edges.houseFault("room 3;room 2;flight 0 ^;", 0);
        Edges.houseFault("room 3;room 2;flight 0 1 ^;", 0);
        Edges.houseFault("room 3;room 2;flight 0 1 5 ^5", 0);
    }

    @Edges.Says("MINUTES 1 to 60)")
    private static void p04_minutesOfAFlight1To60() {
        DownOnly x = Edges.told("room 3;room 2;flight 0 1 1;flight 0 1 60");
        due(x.way(0, 2), 1);
        due(x.way(1, 2), 60);
        Edges.houseFault("room 3;room 2;flight 0 1 ^0", 1);
        Edges.houseFault("room 3;room 2;flight 0 1 ^61", 1);
    }

    @Edges.Says("| passage NUMBER NUMBER NUMBER (between two unlike ROOMS of one HEIGHT, MINUTES 1 to 60)")
    private static void p04_aPassageIsBetweenTwoUnlikeRooms() {
        Edges.houseIs("room 3;room 3;passage 0 1 5", 2);
        Edges.houseIs("room 3;room 3;passage 1 0 5", 2);
        Edges.houseFault("room 3;room 3;passage 0 ^0 5", 1);
        Edges.houseFault("room 3;room 3;passage 1 ^1 5", 1);
    }

    @Edges.Says("| passage NUMBER NUMBER NUMBER (between two unlike ROOMS of one HEIGHT, MINUTES 1 to 60)")
    private static void p04_aPassageIsBetweenRoomsOfOneHeight() {
        Edges.houseIs("room 0;room 40;room 0;passage 2 0 5", 3);
        Edges.houseFault("room 3;room 2;passage 0 ^1 5", 1);
        Edges.houseFault("room 3;room 2;passage 1 ^0 5", 1);
    }

    @Edges.Says("| passage NUMBER NUMBER NUMBER (between two unlike ROOMS of one HEIGHT, MINUTES 1 to 60)")
    private static void p04_minutesOfAPassage1To60() {
        DownOnly x = Edges.told("room 3;room 3;passage 0 1 1;passage 0 1 60");
        due(x.way(0, 2), 1);
        due(x.way(1, 2), 60);
        Edges.houseFault("room 3;room 3;passage 0 1 ^0", 1);
        Edges.houseFault("room 3;room 3;passage 0 1 ^61", 1);
        Edges.houseFault("room 3;room 3;passage 0 1^", 0);
    }

    @Edges.Says("| door NUMBER NUMBER NUMBER (a WAY,")
    private static void p04_aDoorIsOfAWay() {
        DownOnly x = Edges.told("room 3;room 3;room 1;passage 0 1 5;flight 0 2 5;door 0 1 2;door 1 3 4");
        due(x.way(0, 4), 1);
        due(x.way(0, 5), 2);
        due(x.way(1, 4), 3);
        due(x.way(1, 5), 4);
        Edges.houseFault("room 3;door ^0 1 2", 1);
        Edges.houseFault("room 3;room 3;passage 0 1 5;door ^1 1 2", 1);
        Edges.houseFault("room 3;room 3;passage 0 1 5;door ^24 1 2", 1);
        Edges.houseFault("room 3;room 3;passage 0 1 5;door 0 1^", 0);
    }

    @Edges.Says("from and till: minutes of the day 0 to 1439,")
    private static void p04_aDoorsMinutes0To1439() {
        DownOnly x = Edges.told("room 3;room 3;passage 0 1 5;door 0 0 1439");
        due(x.way(0, 4), 0);
        due(x.way(0, 5), 1439);
        Edges.houseIs("room 3;room 3;passage 0 1 5;door 0 1439 1439", 2);
        Edges.houseFault("room 3;room 3;passage 0 1 5;door 0 ^1440 1440", 1);
        Edges.houseFault("room 3;room 3;passage 0 1 5;door 0 0 ^1440", 1);
    }

    @Edges.Says("till not below from;")
    private static void p04_tillNotBelowFrom() {
        Edges.houseIs("room 3;room 3;passage 0 1 5;door 0 7 7", 2);
        Edges.houseIs("room 3;room 3;passage 0 1 5;door 0 0 0", 2);
        Edges.houseFault("room 3;room 3;passage 0 1 5;door 0 7 ^6", 1);
        Edges.houseFault("room 3;room 3;passage 0 1 5;door 0 1439 ^0", 1);
    }

    @Edges.Says("of one the last told;")
    private static void p04_ofOneWayTheLastToldDoor() {
        DownOnly x = Edges.told("room 3;room 3;passage 0 1 5;door 0 5 900;door 0 3 4");
        due(x.way(0, 4), 3);
        due(x.way(0, 5), 4);
        due(x.soonest(0, 4, 1, false), 9);
        due(x.soonest(0, 5, 1, false), -2);
    }

    @Edges.Says("| hoist NUMBER NUMBER NUMBER (MINUTES 1 to 60, seats 1 to 9, every 1 to 120 minutes;")
    private static void p04_theHoistsMinutes1To60() {
        due(Edges.told("room 3;hoist 1 5 50").count(11), 1);
        due(Edges.told("room 3;hoist 60 5 50").count(11), 60);
        Edges.houseFault("room 3;hoist ^0 5 50", 1);
        Edges.houseFault("room 3;hoist ^61 5 50", 1);
        Edges.houseFault("room 3;hoist^", 0);
    }

    @Edges.Says("| hoist NUMBER NUMBER NUMBER (MINUTES 1 to 60, seats 1 to 9, every 1 to 120 minutes;")
    private static void p04_theHoistsSeats1To9() {
        due(Edges.told("room 3;hoist 5 1 50").count(12), 1);
        due(Edges.told("room 3;hoist 5 9 50").count(12), 9);
        Edges.houseFault("room 3;hoist 5 ^0 50", 1);
        Edges.houseFault("room 3;hoist 5 ^10 50", 1);
        Edges.houseFault("room 3;hoist 5^", 0);
    }

    @Edges.Says("| hoist NUMBER NUMBER NUMBER (MINUTES 1 to 60, seats 1 to 9, every 1 to 120 minutes;")
    private static void p04_theHoistsEvery1To120() {
        due(Edges.told("room 3;hoist 5 5 1").count(13), 1);
        due(Edges.told("room 3;hoist 5 5 120").count(13), 120);
        Edges.houseFault("room 3;hoist 5 5 ^0", 1);
        Edges.houseFault("room 3;hoist 5 5 ^121", 1);
        Edges.houseFault("room 3;hoist 5 5^", 0);
    }

    @Edges.Says("once at most)")
    private static void p04_aHoistOnceAtMost() {
        Edges.houseIs("hoist 5 5 5;room 3", 1);
        Edges.houseFault("room 3;hoist 5 5 5;^hoist 5 5 5", 4);
        Edges.houseFault("hoist 1 1 1;room 3;^hoist", 4);
    }

    @Edges.Says("| person NUMBER (his HOME, a ROOM).")
    private static void p04_aPersonsHomeIsARoom() {
        DownOnly x = Edges.told("room 3;room 3;person 0;person 1");
        due(x.person(0, 1), 0);
        due(x.person(1, 1), 1);
        Edges.houseFault("room 3;room 3;person ^2", 1);
        Edges.houseFault("room 3;room 3;person ^16", 1);
        Edges.houseFault("room 3;room 3;person^", 0);
    }

    @Edges.Says("ROOMS, WAYS told ahead.")
    private static void p04_roomsToldAhead() {
        Edges.houseFault("person ^0;room 3", 1);
        Edges.houseFault("room 3;person ^1;room 3", 1);
        Edges.houseFault("room 3;flight 0 ^1 5;room 1", 1);
        Edges.houseFault("room 3;flight ^1 0 5;room 4", 1);
        Edges.houseFault("room 3;passage 0 ^1 5;room 3", 1);
        Edges.houseFault("room 3;passage ^1 0 5;room 3", 1);
        Edges.houseFault("flight ^0 1 5;room 3;room 1", 1);
    }

    @Edges.Says("ROOMS, WAYS told ahead.")
    private static void p04_waysToldAhead() {
        Edges.houseFault("room 3;room 1;door ^0 1 2;flight 0 1 5", 1);
        Edges.houseFault("room 3;room 1;flight 0 1 5;door ^1 1 2;flight 0 1 5", 1);
        Edges.houseIs("room 3;room 1;flight 0 1 5;door 0 1 2;flight 0 1 5;door 1 1 2", 2);
    }

    @Edges.Says("ROOMS 0 to 15,")
    private static void p04_rooms0To15() {
        String sixteen = Edges.times("room 7", 15, ";") + ";room 8";
        DownOnly x = Edges.told(sixteen);
        due(x.count(0), 16);
        due(x.room(15, 0), 8);
        due(x.room(16, 0), -1);
        Edges.houseFault(sixteen + ";^room 7", 4);
    }

    @Edges.Says("WAYS (flights and passages) 0 to 23,")
    private static void p04_ways0To23() {
        String many = "room1;room1;room0;" + Edges.times("flight0 2 9", 12, ";") + ";" + Edges.times("passage0 1 9", 12, ";");
        DownOnly x = Edges.told(many);
        due(x.count(1), 24);
        due(x.way(11, 3), 0);
        due(x.way(12, 3), 1);
        due(x.way(23, 1), 1);
        due(x.way(24, 0), -2);
        Edges.houseFault(many + ";^flight0 2 9", 4);
        Edges.houseFault(many + ";^passage0 1 9", 4);
    }

    @Edges.Says("PEOPLE 0 to 7,")
    private static void p04_people0To7() {
        String eight = "room 1;room 1;" + Edges.times("person 0", 7, ";") + ";person 1";
        DownOnly x = Edges.told(eight);
        due(x.count(2), 8);
        due(x.person(7, 1), 1);
        due(x.person(8, 1), -2);
        Edges.houseFault(eight + ";^person 0", 4);
    }

    @Edges.Says("in the order told;")
    private static void p04_inTheOrderTold() {
        DownOnly x = Edges.told("room 3;person 0;room 9;flight 1 0 7;person 1;room 3;passage 2 0 8;flight 1 2 9");
        due(x.room(0, 0), 3);
        due(x.room(1, 0), 9);
        due(x.room(2, 0), 3);
        due(x.way(0, 2), 7);
        due(x.way(1, 2), 8);
        due(x.way(2, 2), 9);
        due(x.person(0, 1), 0);
        due(x.person(1, 1), 1);
    }

    @Edges.Says("at least one ROOM.")
    private static void p04_atLeastOneRoom() {
        Edges.houseIs("room 0", 1);
        Edges.houseFault("^", 0);
        Edges.houseFault("hoist 5 5 5^", 0);
        Edges.houseFault("hoist 5 5 5  ^", 0);
    }

    @Edges.Says("The TOP: the first of the highest ROOMS.")
    private static void p04_theTopIsTheFirstOfTheHighest() {
        DownOnly x = Edges.told("room 4;room 9;room 9;room 0");
        due(x.room(0, 2), 0);
        due(x.room(1, 2), 1);
        due(x.room(2, 2), 0);
        due(x.room(3, 2), 0);
        due(Edges.told("room 0;room 0").room(0, 2), 1);
        due(Edges.told("room 0;room 1").room(1, 2), 1);
    }

    @Edges.Says("NUMBER (1 to 5 digits, as far as digits go on)")
    private static void p04_aNumberHas1To5Digits() {
        Edges.houseIs("room 00040", 1);
        Edges.houseIs("room 00000", 1);
        Edges.houseFault("room ^000000", 1);
        Edges.houseFault("room ^000040", 1);
        Edges.houseFault("room ^" + "0".repeat(395), 1);
        Edges.houseFault("room 4 ^0", 0);
        Edges.houseFault("room ^", 0);
    }

    @Edges.Says("(small letters, as far as these go on)")
    private static void p04_aWordGoesOnAsFarAsSmallLettersDo() {
        Edges.houseFault("^rooms 4", 0);
        Edges.houseFault("^roo 4", 0);
        Edges.houseFault("^rooma 4", 0);
        Edges.houseFault("^roomz 4", 0);
        Edges.houseFault("^aroom 4", 0);
        Edges.houseFault("^zroom 4", 0);
        Edges.houseFault("^Room 4", 0);
        Edges.houseFault("^roOm 4", 0);
        Edges.houseFault("room^M 4", 0);
        Edges.houseFault("room^` 4", 0);
        Edges.houseFault("room^{ 4", 0);
        Edges.houseFault("^ro om 4", 0);
        Edges.houseFault("room 4;^roomperson 0", 0);
        Edges.houseFault("room 4^room 4", 0);
    }

    @Edges.Says("0 a byte or WORD that can't stand there,")
    private static void p04_eachLetterOfAWordCounts() {
        String[] words = {"room 1", "flight 0 1 5", "passage 0 2 5", "door 0 1 2", "hoist 1 1 1", "person 0"};
        for (String clause : words) {
            String ahead = "room 3;room 2;room 3;flight 0 1 5;";
            Edges.houseIs(ahead + clause, clause.startsWith("room") ? 4 : 3);
            for (int at = 0; clause.charAt(at) != ' '; at++) {
                Edges.houseFault(ahead + "^" + clause.substring(0, at) + 'q' + clause.substring(at + 1), 0);
                Edges.houseFault(ahead + "^" + clause.substring(0, at) + 'q' + clause.substring(at), 0);
            }
        }
    }

    @Edges.Says("Blanks (32) stand between as one likes.")
    private static void p04_blanksStandBetweenAsOneLikes() {
        Edges.houseIs("room3;room1;flight0 1 60;door0 0 1439;hoist60 9 120;person1", 2);
        Edges.houseIs("   room   3  ;  room   1 ;flight  0   1  60  ", 2);
        Edges.houseFault("room^\t3", 0);
        Edges.houseFault("room^\n3", 0);
        Edges.houseFault("room^\u00003", 0);
        Edges.houseFault("room^\u001f3", 0);
        Edges.houseFault("room^!3", 0);
        Edges.houseFault("room^\u00a03", 0);
        Edges.houseFault("room 3^\u0000", 0);
    }

    // ---- promise 4: house, its FAULTS -------------------------------------------------------------

    @Edges.Says("FAULTS, the first along the text,")
    private static void p04_theFirstFaultAlongTheText() {
        Edges.houseFault("room ^41;room 42;x", 1);
        Edges.houseFault("^x;room 41", 0);
        Edges.houseFault("room 3;flight ^7 8 99", 1);
        Edges.houseFault("room 3;flight 0 ^0 99", 1);
        Edges.houseFault("room 3;flight 0 ^0", 1);
        Edges.houseFault("hoist ^0 0 0;room 41", 1);
        Edges.houseFault("room 3;hoist 1 1 1;^hoist 0 0 0", 4);
        Edges.houseFault("hoist 5 5 5;^x", 0);
    }

    @Edges.Says("1 + 8 * its place and:")
    private static void p04_aFaultIs1And8TimesItsPlace() {
        due(Texts.house(new DownOnly(), "x"), -3);
        due(Texts.house(new DownOnly(), " x"), -11);
        due(Texts.house(new DownOnly(), "room 41"), -44);
        due(Texts.house(new DownOnly(), "room 1;hoist 1 1 1;hoist 1 1 1"), -159);
        due(Texts.house(new DownOnly(), " ".repeat(399) + "x"), -3195);
        due(Texts.house(new DownOnly(), " ".repeat(400)), -3203);
    }

    @Edges.Says("0 a byte or WORD that can't stand there,")
    private static void p04_fault0AByteOrWordThatCantStandThere() {
        Edges.houseFault("^?", 0);
        Edges.houseFault("^7", 0);
        Edges.houseFault("^take 1", 0);
        Edges.houseFault("room ^room", 0);
        Edges.houseFault("room ^x", 0);
        Edges.houseFault("room 3 ^person 0", 0);
        Edges.houseFault("room 3;person ^;", 0);
        Edges.houseFault("room^\u00ff3", 0);
        Edges.houseFault("^\u0080", 0);
    }

    @Edges.Says("or the end (behind the last byte; also without a ROOM);")
    private static void p04_fault0TheEndBehindTheLastByte() {
        Edges.houseFault("^", 0);
        Edges.houseFault("   ^", 0);
        Edges.houseFault("room^", 0);
        Edges.houseFault("room  ^", 0);
        Edges.houseFault("room 3;^", 0);
        Edges.houseFault("room 3; ^", 0);
        Edges.houseFault("hoist 5 5 5^", 0);
    }

    @Edges.Says("1 a NUMBER of more digits, or not as told")
    private static void p04_fault1ANumberOfMoreDigitsOrNotAsTold() {
        Edges.houseFault("room ^123456", 1);
        Edges.houseFault("room ^41", 1);
        Edges.houseFault("room ^41x", 1);
        Edges.houseFault("room 3;person ^000000", 1);
        Edges.houseFault("room 3;room 3;passage 0 1 5;door 0 9 ^000009", 1);
    }

    @Edges.Says("(also a flight that does not go down, a passage of unlike HEIGHTS: at the second ROOM);")
    private static void p04_fault1AtTheSecondRoom() {
        Edges.houseFault("room 3;room 3;flight 0    ^1 99", 1);
        Edges.houseFault("room 3;room 2;passage 0    ^1 99", 1);
        Edges.houseFault("room 3;room 2;passage 0 ^00001", 1);
        Edges.houseFault("room 3;room 3;passage 1 ^1", 1);
    }

    @Edges.Says("4 one CLAUSE too many, a 17th ROOM, a 25th WAY, a second hoist, a ninth PERSON (at its first byte).")
    private static void p04_fault4AtItsFirstByte() {
        Edges.houseFault(Edges.times("room1", 16, ";") + ";  ^room", 4);
        Edges.houseFault("room1;room0;" + Edges.times("flight0 1 9", 24, ";") + "; ^flight", 4);
        Edges.houseFault("room1;room1;" + Edges.times("passage0 1 9", 24, ";") + "; ^passage", 4);
        Edges.houseFault("room1;hoist1 1 1; ^hoist", 4);
        Edges.houseFault("room1;" + Edges.times("person0", 8, ";") + " ; ^person", 4);
    }

    @Edges.Says("Of one place the least.")
    private static void p04_ofOnePlaceTheLeastFault() {
        String forty = Edges.times("room1", 15, ";") + ";room0;" + Edges.times("flight0 15 1", 15, ";") + ";"
                + Edges.times("person0", 8, ";") + ";hoist1 1 1";
        Edges.houseFault(forty + ";^x", 0);
        Edges.houseFault(forty + ";^", 0);
        Edges.houseFault(forty + ";^;", 0);
        Edges.houseFault(forty + ";^room", 4);
        Edges.houseFault(forty + "^x", 0);
    }
}
