import java.util.List;

/** Boundary sentences of promises 21 to 31: riders, shops, beds, the flight up, draws, counts and images. */
public final class EdgesOfListsTest {
    private static final String HOUSE = "room 9;room 5;room 0;flight 0 1 5;flight 1 2 7;door 1 100 200;hoist 10 1 30;person 2;person 1";

    private EdgesOfListsTest() {
    }

    public static void main(String[] args) {
        Edges.run(EdgesOfListsTest.class);
    }

    private static void due(int got, int want) {
        Edges.due(got, want);
    }

    private static void due(boolean got, boolean want) {
        Edges.due(got, want);
    }

    // ---- promise 21: rider ------------------------------------------------------------------------

    @Edges.Says("RIDERS 0 to 19: told minutes at which somebody wants to ride;")
    private static void p21_riders0To19() {
        DownOnly x = Edges.told("room 1;hoist 1 9 1");
        for (int k = 1; k <= 20; k++) {
            due(x.rider(k), k);
        }
        due(x.count(7), 20);
        due(x.rides(0), 1);
        due(x.rides(19), 20);
    }

    @Edges.Says("`int rider(int minute)`: A RIDER (minute NONE: there are none then, 0): how many there are;")
    private static void p21_minuteNoneThereAreNoneThen() {
        DownOnly x = Edges.told("room 1;hoist 1 9 1");
        due(x.rider(0), 1);
        due(x.rider(1439), 2);
        due(x.rider(-1), 0);
        due(x.count(7), 0);
        due(x.rides(0), -1);
        due(x.rider(-1), 0);
        due(x.rider(7), 1);
        due(x.rides(0), 7);
        due(new DownOnly().rider(-1), 0);
        due(new DownOnly().rider(5), 1);
    }

    @Edges.Says("-2, and nothing happens, for others, or if there are 20.")
    private static void p21_minus2ForOthers() {
        DownOnly x = Edges.told("room 1;hoist 1 9 1");
        x.rider(5);
        Edges.refused(x, y -> y.rider(1440), -2);
        Edges.refused(x, y -> y.rider(-2), -2);
        due(x.rider(Edges.LEAST), -2);
        due(x.rider(Edges.MOST), -2);
        due(x.rider(1439), 2);
        due(x.rider(0), 3);
    }

    @Edges.Says("-2, and nothing happens, for others, or if there are 20.")
    private static void p21_minus2IfThereAre20() {
        DownOnly x = Edges.told("room 1;hoist 1 9 1");
        for (int k = 0; k < 20; k++) {
            x.rider(9);
        }
        Edges.refused(x, y -> y.rider(0), -2);
        due(x.rider(-1), 0);
        due(x.rider(0), 1);
    }

    // ---- promise 22: rides ------------------------------------------------------------------------

    private static DownOnly riders(String hoist, int... minutes) {
        DownOnly x = Edges.told("room 1;hoist " + hoist);
        for (int minute : minutes) {
            x.rider(minute);
        }
        return x;
    }

    private static void rides(DownOnly x, int most, int... due) {
        for (int k = 0; k < due.length; k++) {
            due(x.rides(k), due[k]);
        }
        due(x.rides(20), most);
    }

    @Edges.Says("they ride in the order of these minutes (of one minute by their numbers),")
    private static void p22_inTheOrderOfMinutesThenNumbers() {
        rides(riders("1 1 10", 9, 8, 9, 7), 31, 30, 20, 40, 10);
    }

    @Edges.Says("as soon as the hoist LEAVES (not ahead of it) and has a seat:")
    private static void p22_asSoonAsTheHoistLeavesNotAheadOfIt() {
        rides(riders("60 9 30", 0, 1, 29, 30, 31), 29, 0, 30, 30, 30, 60);
    }

    @Edges.Says("as soon as the hoist LEAVES (not ahead of it) and has a seat:")
    private static void p22_andHasASeat() {
        rides(riders("60 2 30", 5, 5, 5, 5, 5, 31), 85, 30, 30, 60, 60, 90, 90);
        rides(riders("60 1 1", 9, 9, 10, 9), 2, 9, 10, 12, 11);
        rides(riders("60 9 30", 5, 5, 5, 5, 5, 5, 5, 5, 5, 5), 55, 30, 30, 30, 30, 30, 30, 30, 30, 30, 60);
        // seats of one leave are not kept for the next
        rides(riders("60 2 30", 5, 31, 31, 31), 59, 30, 60, 60, 90);
    }

    @Edges.Says("when that one rides (-2: not today),")
    private static void p22_notToday() {
        rides(riders("60 1 120", 1320, 1320, 1321, 1319), 1, -2, -2, -2, 1320);
        rides(riders("1 1 1", 1439, 1439, 1438), 0, 1439, -2, 1438);
        rides(riders("60 9 120", 1321, 1439), -2, -2, -2);
        rides(riders("60 9 1", 1439), 0, 1439);
    }

    @Edges.Says({"20: the most that any who rides waits (-2: nobody rides).", "when each rides; the most that any waits."})
    private static void p22_theMostThatAnyWhoRidesWaits() {
        rides(riders("1 1 120", 120), 0, 120);
        rides(riders("1 1 120", 1, 1320, 1321), 119, 120, 1320, -2);
        rides(riders("1 1 120", 0, 0, 0), 240, 0, 120, 240);
        rides(riders("1 1 120"), -2);
        rides(riders("1 1 120", 1321), -2, -2);
    }

    @Edges.Says("RIDERS what 0 to 19: when that one rides (-2: not today), 20: the most that any who rides waits (-2: nobody rides). NONE without these,")
    private static void p22_noneWithoutThese() {
        DownOnly x = riders("1 1 1", 5, 6);
        due(x.rides(2), -1);
        due(x.rides(19), -1);
        due(x.rides(21), -1);
        for (int k : Edges.NEVER) {
            due(x.rides(k), -1);
        }
        due(riders("1 1 1").rides(0), -1);
    }

    @Edges.Says("or without a hoist.")
    private static void p22_noneWithoutAHoist() {
        DownOnly x = Edges.told("room 1");
        due(x.rides(20), -1);
        x.rider(5);
        due(x.rides(0), -1);
        due(x.rides(20), -1);
        Texts.house(x, "room 1;hoist 1 1 1");
        due(x.rides(0), 5);
        due(x.rides(20), 0);
        DownOnly none = new DownOnly();
        none.rider(5);
        due(none.rides(0), -1);
        due(none.rides(20), -1);
    }

    // ---- promise 23: customer ---------------------------------------------------------------------

    @Edges.Says("SHOPS 0 to 5 and CUSTOMERS 0 to 9: each of these goes from one SHOP to another one (unlike).")
    private static void p23_shops0To5() {
        DownOnly x = new DownOnly();
        due(x.customer(0, 5), 1);
        due(x.customer(5, 0), 2);
        due(x.customer(6, 0), -2);
        due(x.customer(0, 6), -2);
        due(x.customer(0, -1), -2);
        due(x.customer(-2, 0), -2);
        due(x.customer(Edges.LEAST, 0), -2);
        due(x.customer(0, Edges.LEAST), -2);
        due(x.customer(Edges.MOST, 0), -2);
        due(x.customer(0, Edges.MOST), -2);
        due(x.count(8), 2);
    }

    @Edges.Says("SHOPS 0 to 5 and CUSTOMERS 0 to 9: each of these goes from one SHOP to another one (unlike).")
    private static void p23_unlikeShops() {
        DownOnly x = new DownOnly();
        for (int shop = 0; shop < 6; shop++) {
            due(x.customer(shop, shop), -2);
        }
        due(x.count(8), 0);
    }

    @Edges.Says("`int customer(int from, int to)`: A CUSTOMER goes from a SHOP to another one (from NONE: there are none then, 0): how many there are;")
    private static void p23_fromNoneThereAreNoneThen() {
        DownOnly x = new DownOnly();
        due(x.customer(1, 0), 1);
        due(x.customer(1, 0), 2);
        due(x.customer(-1, 9), 0);
        due(x.count(8), 0);
        due(x.order(2, 0), 0);
        due(x.order(2, 6), 0);
        due(x.customer(-1, 0), 0);
        due(x.customer(1, 0), 1);
        due(x.order(2, 0), 1);
    }

    @Edges.Says("-2, and nothing happens, for others, or if there are 10.")
    private static void p23_minus2ForOthersOrIfThereAre10() {
        DownOnly x = Edges.told(HOUSE);
        for (int k = 1; k <= 9; k++) {
            due(x.customer(1, 0), k);
        }
        Edges.refused(x, y -> y.customer(1, 1), -2);
        due(x.customer(1, 0), 10);
        Edges.refused(x, y -> y.customer(0, 1), -2);
        due(x.order(2, 6), 10);
    }

    // ---- promise 24: order ------------------------------------------------------------------------

    private static void order(DownOnly x, int n, int many, int... row) {
        for (int place = 0; place < n; place++) {
            due(x.order(n, place), row[place]);
        }
        due(x.order(n, 6), many);
    }

    @Edges.Says("ORDER of SHOPS from the top down, all told ones: by which most CUSTOMERS go down;")
    private static void p24_byWhichMostCustomersGoDown() {
        DownOnly x = new DownOnly();
        x.customer(0, 1);
        x.customer(1, 0);
        x.customer(1, 0);
        order(x, 2, 2, 1, 0);
        DownOnly one = new DownOnly();
        one.customer(0, 1);
        order(one, 2, 1, 0, 1);
        order(one, 6, 1, 0, 1, 2, 3, 4, 5);
        DownOnly all = new DownOnly();
        for (int k = 0; k < 10; k++) {
            all.customer(5, k % 5);
        }
        order(all, 6, 10, 5, 0, 1, 2, 3, 4);
        order(all, 5, 0, 0, 1, 2, 3, 4);
        DownOnly round = new DownOnly();
        round.customer(0, 1);
        round.customer(1, 2);
        round.customer(2, 0);
        round.customer(2, 0);
        order(round, 3, 3, 1, 2, 0);
    }

    @Edges.Says("of several the first (as a row of numbers).")
    private static void p24_ofSeveralTheFirstRow() {
        DownOnly x = new DownOnly();
        order(x, 6, 0, 0, 1, 2, 3, 4, 5);
        x.customer(2, 0);
        order(x, 3, 1, 1, 2, 0);
        DownOnly round = new DownOnly();
        round.customer(0, 1);
        round.customer(1, 2);
        round.customer(2, 0);
        order(round, 3, 2, 0, 1, 2);
    }

    @Edges.Says("ORDER of the first n SHOPS (1 to 6) what 0 to 5: the SHOP at that place from above, 6: how many CUSTOMERS (of these SHOPS) go down.")
    private static void p24_theFirstNShops1To6() {
        DownOnly x = new DownOnly();
        x.customer(3, 0);
        x.customer(5, 3);
        order(x, 1, 0, 0);
        order(x, 3, 0, 0, 1, 2);
        order(x, 4, 1, 1, 2, 3, 0);
        order(x, 6, 2, 1, 2, 4, 5, 3, 0);
    }

    @Edges.Says("6: how many CUSTOMERS (of these SHOPS) go down.")
    private static void p24_customersFromOrToOtherShopsDoNotCount() {
        DownOnly x = new DownOnly();
        x.customer(1, 3);
        x.customer(3, 0);
        x.customer(2, 5);
        x.customer(0, 1);
        order(x, 1, 0, 0);
        order(x, 2, 1, 0, 1);
        order(x, 3, 1, 0, 1, 2);
        order(x, 4, 2, 0, 1, 2, 3);
        order(x, 5, 2, 0, 1, 2, 3, 4);
        order(x, 6, 3, 0, 1, 2, 3, 4, 5);
    }

    @Edges.Says("NONE without these (a place beyond n, too).")
    private static void p24_noneWithoutThese() {
        DownOnly x = new DownOnly();
        for (int n : new int[] {0, -1, 7, Edges.LEAST, Edges.MOST}) {
            due(x.order(n, 0), -1);
            due(x.order(n, 6), -1);
        }
        for (int what : new int[] {-1, 7, Edges.LEAST, Edges.MOST}) {
            due(x.order(6, what), -1);
            due(x.order(1, what), -1);
        }
    }

    @Edges.Says("NONE without these (a place beyond n, too).")
    private static void p24_noneAtAPlaceBeyondN() {
        DownOnly x = new DownOnly();
        for (int n = 1; n <= 6; n++) {
            for (int place = 0; place <= 5; place++) {
                due(x.order(n, place), place < n ? place : -1);
            }
            due(x.order(n, 6), 0);
        }
    }

    // ---- promise 25: beds -------------------------------------------------------------------------

    @Edges.Says("BEDS: PEOPLE who can't be at HOME by minute 1439, by SOONEST from where they are in the minute NOW")
    private static void p25_byMinute1439() {
        DownOnly x = Edges.told("room 3;room 3;passage 0 1 20;person 0;person 1", "wait");
        due(x.beds(), 0);
        x.tick(0, 1399);
        x.go(0, 0);
        due(x.beds(), 0);
        x.tick(0, 20);
        due(x.person(0, 0), 1);
        due(x.beds(), 0);
        x.tick(0, 1);
        due(x.beds(), 1);
    }

    @Edges.Says("(on their way: from its end, when they come there),")
    private static void p25_onTheirWayFromItsEnd() {
        DownOnly x = Edges.told("room 3;room 3;passage 0 1 20;person 0;person 0", "wait");
        x.tick(0, 1399);
        x.go(0, 0);
        due(x.beds(), 0);
        x.tick(0, 1);
        x.go(1, 0);
        // he comes there at 1420 and would be back at 1440
        due(x.beds(), 2);
        DownOnly y = Edges.told("room 3;room 3;passage 0 1 20;person 1", "wait");
        y.go(0, 0);
        y.tick(0, 1419);
        y.go(0, 0);
        due(y.beds(), 0);
        DownOnly z = Edges.told("room 3;room 3;passage 0 1 20;person 1", "wait");
        z.go(0, 0);
        z.tick(0, 1420);
        z.go(0, 0);
        due(z.beds(), 1);
    }

    @Edges.Says("with the hoist if they have not ridden;")
    private static void p25_withTheHoistIfTheyHaveNotRidden() {
        DownOnly x = Edges.told("room 3;room 1;flight 0 1 5;hoist 10 1 30;person 0;person 0", "wait");
        x.go(0, 24);
        x.go(1, 0);
        due(x.beds(), 0);
        x.tick(0, 10);
        x.go(0, 0);
        due(x.beds(), 1);
        x.tick(0, 1400);
        // the other rides at 1410, and not a minute later
        due(x.beds(), 1);
        x.tick(0, 1);
        due(x.beds(), 3);
    }

    @Edges.Says("at 1440 those who are not in their HOMES.")
    private static void p25_at1440ThoseNotInTheirHomes() {
        DownOnly x = Edges.told("room 3;room 3;passage 0 1 1;person 0;person 0;person 0", "wait");
        x.tick(0, 1438);
        x.go(0, 0);
        x.tick(0, 1);
        due(x.beds(), 1);
        x.go(1, 0);
        x.tick(0, 1);
        // one is in the other room, one on the way, one at home
        due(x.beds(), 3);
    }

    @Edges.Says("at 1440 those who are not in their HOMES.")
    private static void p25_at1440WhoWouldJustComeHome() {
        DownOnly x = Edges.told("room 3;room 3;passage 0 1 1;person 0", "wait");
        x.go(0, 0);
        x.tick(0, 1439);
        x.go(0, 0);
        due(x.beds(), 1);
        x.tick(0, 1);
        due(x.person(0, 3), 0);
        due(x.person(0, 4), 1440);
        due(x.beds(), 1);
    }

    @Edges.Says("`int beds()`: BEDS, as bits (PEOPLE);")
    private static void p25_nobodyAndAllEight() {
        due(Edges.told("room 3").beds(), 0);
        DownOnly x = Edges.told("room 3;room 1;flight 0 1 5;" + Edges.times("person 0", 8, ";"), "take 0 if person<7", "take 0");
        due(x.beds(), 0);
        x.tick(0, 1);
        due(x.beds(), 127);
        x.tick(1, 1);
        due(x.beds(), 255);
        x.tick(1, 1438);
        due(x.beds(), 255);
    }

    @Edges.Says("NONE without a HOUSE.")
    private static void p25_noneWithoutAHouse() {
        DownOnly x = Edges.told("", "wait");
        due(x.beds(), -1);
        x.tick(0, 1440);
        due(x.beds(), -1);
        due(Texts.house(x, "room 41"), Edges.fault(5, 1));
        due(x.beds(), -1);
    }

    // ---- promise 26: upward -----------------------------------------------------------------------

    private static void upward(DownOnly x, int flight, int then, int now) {
        due(x.upward(0), flight);
        due(x.upward(1), then);
        due(x.upward(2), now);
    }

    @Edges.Says("UPWARD: of flights, were it a passage, that by which most twos (from, to, unlike ROOMS) have a way")
    private static void p26_byWhichMostTwosHaveAWay() {
        upward(Edges.told("room 2;room 0;flight 0 1 1"), 0, 2, 1);
        // up from the lowest to the highest joins all three both ways
        upward(Edges.told("room 2;room 1;room 0;flight 0 1 1;flight 1 2 1;flight 0 2 60"), 2, 6, 3);
        upward(Edges.told("room 2;room 1;room 0;room 0;flight 0 1 1;flight 1 2 1;passage 2 3 1"), 1, 9, 7);
    }

    @Edges.Says("UPWARD: of flights, were it a passage, that by which most twos (from, to, unlike ROOMS) have a way")
    private static void p26_ofTheHouseThereIsNow() {
        DownOnly x = Edges.told("room 2;room 1;room 0;flight 0 1 1;flight 1 2 1");
        upward(x, 0, 4, 3);
        Texts.house(x, "room 2;room 1;room 0;flight 0 1 1");
        upward(x, 0, 2, 1);
        Texts.house(x, "room 2;room 1;room 0");
        upward(x, -2, -2, 0);
    }

    @Edges.Says("(by WAYS alone, doors not asked),")
    private static void p26_byWaysAloneDoorsNotAsked() {
        upward(Edges.told("room 2;room 0;flight 0 1 60;door 0 0 0;hoist 1 9 1"), 0, 2, 1);
        upward(Edges.told("room 2;room 2;room 0;passage 0 1 60;door 0 1439 1439;flight 1 2 1"), 1, 6, 4);
    }

    @Edges.Says("of several the least.")
    private static void p26_ofSeveralTheLeast() {
        upward(Edges.told("room 2;room 1;room 0;flight 1 2 1;flight 0 1 1"), 0, 4, 3);
        upward(Edges.told("room 2;room 0;flight 0 1 9;flight 0 1 1"), 0, 2, 1);
        upward(Edges.told("room 2;room 2;room 0;passage 0 1 9;flight 0 2 1;flight 1 2 1"), 1, 6, 4);
    }

    @Edges.Says("UPWARD what 0: the flight, 1: how many twos have a way then, 2: how many have one now. 0, 1: -2: there is no flight;")
    private static void p26_minus2IfThereIsNoFlight() {
        upward(Edges.told("room 2;room 0;hoist 1 1 1"), -2, -2, 0);
        upward(Edges.told("room 2"), -2, -2, 0);
        upward(Edges.told("room 2;room 2;passage 0 1 1"), -2, -2, 2);
    }

    @Edges.Says("UPWARD what 0: the flight, 1: how many twos have a way then, 2: how many have one now. 0, 1: -2: there is no flight;")
    private static void p26_all16Rooms() {
        StringBuilder s = new StringBuilder("room15");
        for (int k = 14; k >= 0; k--) {
            s.append(";room").append(k);
        }
        for (int k = 0; k < 15; k++) {
            s.append(";flight").append(k).append(' ').append(k + 1).append(" 1");
        }
        // a row of 16 has 120 twos, and any one flight up one more
        upward(Edges.told(s.toString()), 0, 121, 120);
        s.append(";flight0 15 1");
        upward(Edges.told(s.toString()), 15, 240, 120);
    }

    @Edges.Says("`int upward(int what)`: UPWARD what 0: the flight, 1: how many twos have a way then, 2: how many have one now. 0, 1: -2: there is no flight; NONE without these.")
    private static void p26_noneWithoutThese() {
        DownOnly x = Edges.told("room 2;room 0;flight 0 1 1");
        due(x.upward(3), -1);
        for (int what : Edges.NEVER) {
            due(x.upward(what), -1);
        }
        for (int what = 0; what <= 3; what++) {
            due(new DownOnly().upward(what), -1);
        }
    }

    // ---- promise 27: seed -------------------------------------------------------------------------

    @Edges.Says("DRAWS: x (0 to 2147483647; 0 at first)")
    private static void p27_x0To2147483647And0AtFirst() {
        DownOnly x = new DownOnly();
        due(x.seed(2147483647), 0);
        due(x.count(9), 2147483647);
        due(x.seed(0), 2147483647);
        due(x.seed(1), 0);
        due(x.count(9), 1);
    }

    @Edges.Says("`int seed(int x)`: x becomes a number: what it was;")
    private static void p27_whatItWas() {
        DownOnly x = new DownOnly();
        due(x.seed(5), 0);
        due(x.seed(5), 5);
        due(x.seed(9), 5);
        due(x.count(9), 9);
    }

    @Edges.Says("NONE, and nothing happens, below 0.")
    private static void p27_noneBelow0() {
        DownOnly x = Edges.told(HOUSE);
        x.seed(77);
        Edges.refused(x, y -> y.seed(-1), -1);
        due(x.seed(Edges.LEAST), -1);
        due(x.seed(0), 77);
    }

    // ---- promise 28: drawn ------------------------------------------------------------------------

    /** The first eight DRAWS from 0 are 0, 21468, 9988, 22117, 3498, 16927, 16045, 19741; of 16 the rest is these. */
    private static final int[] FIRST = {0, 12, 4, 5, 10, 15, 13, 13};

    private static String house16(int... homes) {
        StringBuilder s = new StringBuilder(Edges.times("room1", 15, ";") + ";room0");
        for (int home : homes) {
            s.append(";person").append(home);
        }
        return s.toString();
    }

    @Edges.Says("becomes x * 1103515245 + 12345, of 2147483648 the rest; a DRAW is x / 65536.")
    private static void p28_theFirstDraws() {
        for (int person = 0; person < 8; person++) {
            int[] homes = FIRST.clone();
            due(Edges.told(house16(homes), "wait").drawn(0, 1, 0), 8);
            homes[person] = (homes[person] + 1) % 16;
            due(Edges.told(house16(homes), "wait").drawn(0, 1, 0), 7);
        }
    }

    @Edges.Says("becomes x * 1103515245 + 12345, of 2147483648 the rest; a DRAW is x / 65536.")
    private static void p28_drawsFromTheGreatestX() {
        // from 2147483647 they are 15929, 4409, 9862, 26718: of 16 the rest is 9, 9, 6, 14
        DownOnly x = Edges.told(house16(9, 9, 6, 14), "wait");
        x.seed(2147483647);
        due(x.drawn(0, 1, 0), 4);
        due(x.count(9), 2147483647);
        x.seed(0);
        due(x.drawn(0, 1, 0), 0);
    }

    @Edges.Says("DRAWN DAYS by a RULE: m times (1 to 20) all PEOPLE, by their numbers, are in the ROOM that is a DRAW mod ROOMS at minute 0, nobody has ridden;")
    private static void p28_mDays1To20() {
        DownOnly x = Edges.told("room 1;" + Edges.times("person 0", 8, ";"), "wait");
        due(x.drawn(0, 1, 0), 8);
        due(x.drawn(0, 20, 0), 160);
        due(x.drawn(0, 0, 0), -1);
        due(x.drawn(0, 21, 0), -1);
        due(x.drawn(0, -1, 0), -1);
        due(x.drawn(0, Edges.LEAST, 0), -1);
        due(x.drawn(0, Edges.MOST, 0), -1);
    }

    @Edges.Says("DRAWN DAYS by a RULE: m times (1 to 20) all PEOPLE, by their numbers, are in the ROOM that is a DRAW mod ROOMS at minute 0, nobody has ridden;")
    private static void p28_theDrawsGoOnFromDayToDay() {
        // the ninth to the 16th DRAW of 16: 10, 10, 5, 12, 11, 14, 15, 3; none is that of the first day
        DownOnly x = Edges.told(house16(FIRST), "wait");
        due(x.drawn(0, 1, 0), 8);
        due(x.drawn(0, 2, 0), 8);
        DownOnly y = Edges.told(house16(10, 10, 5, 12, 11, 14, 15, 3), "wait");
        due(y.drawn(0, 1, 0), 0);
        due(y.drawn(0, 2, 0), 8);
        // of two PEOPLE each day takes two DRAWS alone
        DownOnly two = Edges.told(house16(FIRST[2], FIRST[3]), "wait");
        due(two.drawn(0, 1, 0), 0);
        due(two.drawn(0, 2, 0), 2);
        due(two.drawn(0, 3, 0), 2);
    }

    @Edges.Says("DRAWN DAYS by a RULE: m times (1 to 20) all PEOPLE, by their numbers, are in the ROOM that is a DRAW mod ROOMS at minute 0, nobody has ridden;")
    private static void p28_nobodyHasRiddenAndItIsMinute0() {
        DownOnly x = Edges.told("room 1;hoist 60 9 1;person 0;person 0", "wait", "ride if now=0 and rode=0;wait", "ride if now=1380");
        x.go(0, 24);
        x.tick(0, 1440);
        due(x.drawn(1, 1, 0), 2);
        due(x.drawn(2, 1, 1), 2);
        due(x.drawn(2, 2, 1), 4);
        due(x.drawn(0, 3, 0), 6);
    }

    @Edges.Says("1440 MINUTES go by: how many are HOME then, how many on the way, all together (nothing stays; x as it was).")
    private static void p28_1440MinutesGoBy() {
        DownOnly x = Edges.told("room 1;room 1;passage 0 1 1;person 0;person 1;person 0", "take 0 if now=1439", "take 0 if now=1438", "take 0 if now=1440");
        due(x.drawn(0, 20, 1), 60);
        due(x.drawn(0, 20, 0), 0);
        due(x.drawn(1, 20, 1), 0);
        due(x.drawn(2, 20, 1), 0);
        // the first three DRAWS are 0, 21468, 9988: all are in room 0; by RULE 1 all go over
        due(x.drawn(2, 1, 0), 2);
        due(x.drawn(1, 1, 0), 1);
    }

    @Edges.Says("1440 MINUTES go by: how many are HOME then, how many on the way, all together (nothing stays; x as it was).")
    private static void p28_nothingStaysAndXAsItWas() {
        DownOnly x = Edges.told(HOUSE, "ride;take 0;take 1");
        x.seed(99);
        x.go(1, 24);
        int first = x.drawn(0, 5, 0);
        Edges.refused(x, y -> y.drawn(0, 5, 0), first);
        due(x.go(0, 24), false);
        due(x.count(9), 99);
    }

    @Edges.Says("`int drawn(int rule, int m, int what)`: DRAWN DAYS what 0: HOME, 1: on the way; NONE without these.")
    private static void p28_noneWithoutThese() {
        DownOnly x = Edges.told(HOUSE, "wait");
        due(x.drawn(1, 1, 0), -1);
        due(x.drawn(6, 1, 0), -1);
        due(x.drawn(0, 1, 2), -1);
        for (int k : Edges.NEVER) {
            due(x.drawn(k, 1, 0), -1);
            due(x.drawn(0, 1, k), -1);
        }
        due(new DownOnly().drawn(0, 1, 0), -1);
        due(Edges.told("", "wait").drawn(0, 1, 0), -1);
        due(Edges.told("", "wait").drawn(0, 20, 1), -1);
        DownOnly nobody = Edges.told("room 1", "wait");
        due(nobody.drawn(0, 20, 0), 0);
        due(nobody.drawn(0, 20, 1), 0);
    }

    // ---- promise 29: count ------------------------------------------------------------------------

    @Edges.Says("What 0: ROOMS, 1: WAYS, 2: PEOPLE, 3: RULES, 4: NOW, 5: ERRANDS, 6: TRIPS, 7: RIDERS, 8: CUSTOMERS, 9: x, 10: bytes of the TAPE,")
    private static void p29_allAtTheirMost() {
        String house = Edges.times("room1", 15, ";") + ";room0;" + Edges.times("flight0 15 1", 15, ";") + ";" + Edges.times("person0", 8, ";")
                + ";hoist60 9 120";
        DownOnly x = Edges.told(house, "wait", "wait", "wait", "wait", "wait", "wait");
        x.tick(0, 1440);
        for (int k = 0; k < 20; k++) {
            x.errand(0, 0, 0, 0);
            x.trip(0, 0, 0);
            x.rider(0);
            x.customer(0, 1);
            x.feed(0, 0, 0, 0, 0);
        }
        x.seed(2147483647);
        int[] want = {16, 15, 8, 6, 1440, 10, 12, 20, 10, 2147483647, 400, 60, 9, 120};
        for (int what = 0; what < want.length; what++) {
            due(x.count(what), want[what]);
        }
        due(Edges.told("room1;room0;" + Edges.times("flight0 1 1", 24, ";")).count(1), 24);
    }

    @Edges.Says("11 to 13: the hoist's MINUTES, seats, every (0 without).")
    private static void p29_theHoist0Without() {
        DownOnly x = Edges.told("room 1;hoist 7 8 9");
        due(x.count(11), 7);
        due(x.count(12), 8);
        due(x.count(13), 9);
        DownOnly none = Edges.told("room 1");
        due(none.count(11), 0);
        due(none.count(12), 0);
        due(none.count(13), 0);
        DownOnly fresh = new DownOnly();
        due(fresh.count(11), 0);
        due(fresh.count(12), 0);
        due(fresh.count(13), 0);
    }

    @Edges.Says("What 0: ROOMS, 1: WAYS, 2: PEOPLE, 3: RULES, 4: NOW, 5: ERRANDS, 6: TRIPS, 7: RIDERS, 8: CUSTOMERS, 9: x, 10: bytes of the TAPE,")
    private static void p29_all0AtFirst() {
        DownOnly x = new DownOnly();
        for (int what = 0; what <= 13; what++) {
            due(x.count(what), 0);
        }
    }

    @Edges.Says("`int count(int what)`: What 0: ROOMS, 1: WAYS, 2: PEOPLE, 3: RULES, 4: NOW, 5: ERRANDS, 6: TRIPS, 7: RIDERS, 8: CUSTOMERS, 9: x, 10: bytes of the TAPE, 11 to 13: the hoist's MINUTES, seats, every (0 without). NONE for others.")
    private static void p29_noneForOthers() {
        DownOnly x = Edges.told(HOUSE);
        due(x.count(14), -1);
        for (int what : Edges.NEVER) {
            due(x.count(what), -1);
        }
    }

    // ---- promise 30: image ------------------------------------------------------------------------

    @Edges.Says("`int image(int k)`: An IMAGE is made: NOW;")
    private static void p30_anImageIsMadeNow() {
        DownOnly x = Edges.told(HOUSE, "wait");
        for (int k = 0; k < 4; k++) {
            due(x.image(k), k);
            x.tick(0, 1);
        }
        x.tick(0, 1436);
        due(x.image(0), 1440);
        for (int k = 1; k < 4; k++) {
            due(x.back(k), k);
        }
        due(x.back(0), 1440);
    }

    @Edges.Says("`int image(int k)`: An IMAGE is made: NOW;")
    private static void p30_madeAnewInItsPlace() {
        DownOnly x = Edges.told(HOUSE, "wait");
        due(x.image(2), 0);
        x.tick(0, 5);
        due(x.image(2), 5);
        x.tick(0, 5);
        due(x.back(2), 5);
    }

    @Edges.Says("`int image(int k)`: An IMAGE is made: NOW;")
    private static void p30_alsoWithoutAHouseAndNothingElseHappens() {
        DownOnly x = new DownOnly();
        due(x.image(3), 0);
        due(Texts.house(x, HOUSE), 3);
        Edges.refused(x, y -> y.image(1), 0);
        due(x.back(3), 0);
        due(x.count(0), 0);
    }

    @Edges.Says("IMAGES 0 to 3:")
    private static void p30_noneForOthers() {
        DownOnly x = Edges.told(HOUSE, "wait");
        due(x.image(4), -1);
        for (int k : Edges.NEVER) {
            due(x.image(k), -1);
        }
        for (int k = 0; k < 4; k++) {
            due(x.back(k), -1);
        }
    }

    @Edges.Says("An IMAGE is made: NOW; NONE without it.")
    private static void p30_noneWithoutIt() {
        DownOnly x = Edges.told(HOUSE, "wait");
        Edges.refused(x, y -> y.image(4), -1);
        Edges.refused(x, y -> y.image(-1), -1);
        due(x.image(3), 0);
        due(x.image(0), 0);
    }

    // ---- promise 31: back -------------------------------------------------------------------------

    /** A HOUSE at NOW 0 with one of each list, one who rides, and image 1 of it. */
    private static DownOnly pictured() {
        DownOnly x = Edges.told(HOUSE, "wait", "ride;take 0;take 1");
        x.errand(0, 0, 9, 9);
        x.trip(0, 0, 2);
        x.rider(4);
        x.customer(3, 1);
        x.seed(77);
        x.go(0, 24);
        x.image(1);
        return x;
    }

    @Edges.Says("`int back(int k)`: All is as in an IMAGE: NOW;")
    private static void p31_allIsAsInTheImage() {
        DownOnly x = pictured();
        List<Integer> before = Edges.all(x);
        x.tick(1, 40);
        x.errand(1, 0, 9, 9);
        x.trip(0, 9, 1);
        Texts.house(x, "room 4;room 2;room 0;flight 0 2 9;hoist 2 2 2;person 0");
        // others in the same places as those in the image
        x.errand(2, 5, 6, 1);
        x.trip(0, 5, 2);
        x.rider(-1);
        x.rider(7);
        x.customer(-1, 0);
        x.customer(0, 5);
        x.customer(2, 1);
        x.seed(5);
        due(x.back(1), 0);
        due(Edges.all(x).equals(before), true);
    }

    @Edges.Says("All is as in an IMAGE: NOW;")
    private static void p31_errandsTripsRidersAndCustomersAsTheyWere() {
        DownOnly x = Edges.told(HOUSE);
        x.errand(1, 5, 9, 9);
        x.trip(0, 3, 1);
        x.rider(4);
        x.customer(3, 1);
        x.image(0);
        Texts.house(x, HOUSE);
        x.errand(0, 1, 1, 8);
        x.trip(1, 100, 2);
        x.rider(-1);
        x.rider(31);
        x.customer(-1, 0);
        x.customer(2, 0);
        due(x.back(0), 0);
        due(x.best(0, 0, false, 0), 9);
        due(x.best(0, 0, false, 2), 5);
        due(x.best(0, 4, false, 2), 9);
        due(x.best(0, 5, false, 0), 0);
        due(x.trips(0, -1), 8);
        due(x.trips(0, 0), 0);
        due(x.trips(0, 1), -2);
        due(x.brought(0, 3, 1), 8);
        due(x.brought(0, 4, 1), -2);
        due(x.rides(0), 30);
        due(x.rides(20), 26);
        due(x.order(4, 0), 0);
        due(x.order(4, 1), 2);
        due(x.order(4, 2), 3);
        due(x.order(4, 3), 1);
    }

    @Edges.Says("All is as in an IMAGE: NOW;")
    private static void p31_asManyOfEachAsThereWere() {
        DownOnly x = pictured();
        Texts.house(x, "room 1");
        x.rider(-1);
        x.customer(-1, 0);
        x.image(2);
        int[] none = {1, 0, 0, 2, 0, 0, 0, 0, 0, 77, 0, 0, 0, 0};
        int[] one = {3, 2, 2, 2, 0, 1, 1, 1, 1, 77, 0, 10, 1, 30};
        for (int round = 0; round < 2; round++) {
            due(x.back(1), 0);
            for (int what = 0; what <= 13; what++) {
                due(x.count(what), one[what]);
            }
            due(x.back(2), 0);
            for (int what = 0; what <= 13; what++) {
                due(x.count(what), none[what]);
            }
        }
    }

    @Edges.Says("gone back to, it is as it was")
    private static void p31_seatsOfThisMinuteToo() {
        DownOnly x = pictured();
        due(x.go(1, 24), false);
        x.tick(0, 30);
        due(x.go(1, 24), true);
        due(x.back(1), 0);
        due(x.go(1, 24), false);
        due(x.person(1, 2), 0);
        due(x.person(0, 2), 1);
        due(x.person(0, 4), 10);
    }

    @Edges.Says("gone back to, it is as it was")
    private static void p31_asOftenAsOneLikes() {
        DownOnly x = pictured();
        for (int k = 0; k < 3; k++) {
            x.tick(1, 40 + k);
            x.seed(k);
            x.rider(-1);
            due(x.back(1), 0);
            due(x.count(9), 77);
            due(x.count(7), 1);
            due(x.person(0, 4), 10);
        }
        due(x.back(1), 0);
    }

    @Edges.Says("(these stay).")
    private static void p31_theTapeAndTheRulesStay() {
        DownOnly x = pictured();
        due(Texts.rule(x, "take 0"), 2);
        Texts.tell(x, "room 7");
        due(x.back(1), 0);
        due(x.count(3), 3);
        due(x.count(10), 6);
        due(x.tick(2, 1), 1);
        due(x.house(), 1);
        due(x.room(0, 0), 7);
    }

    @Edges.Says("IMAGES 0 to 3: all but the TAPE and the RULES, as it is;")
    private static void p31_theTapeAndTheRulesAreNotInTheImage() {
        DownOnly x = new DownOnly();
        Texts.tell(x, "wait");
        x.image(0);
        due(x.rule(), 0);
        due(x.back(0), 0);
        due(x.count(10), 0);
        due(x.count(3), 1);
    }

    @Edges.Says("All is as in an IMAGE: NOW;")
    private static void p31_toTheImageOfNoHouse() {
        DownOnly x = Edges.told("", "wait");
        x.tick(0, 9);
        due(x.image(0), 9);
        Texts.house(x, HOUSE);
        x.trip(0, 0, 1);
        due(x.back(0), 9);
        due(x.count(0), 0);
        due(x.count(1), 0);
        due(x.count(2), 0);
        due(x.count(6), 0);
        due(x.count(13), 0);
        due(x.room(0, 0), -1);
        due(x.beds(), -1);
        due(x.upward(2), -1);
        due(x.tick(0, 1431), 1440);
    }

    @Edges.Says("All is as in an IMAGE: NOW;")
    private static void p31_eachImageForItself() {
        DownOnly x = Edges.told(HOUSE, "wait");
        for (int k = 0; k < 4; k++) {
            x.seed(100 + k);
            x.image(k);
            x.tick(0, 10);
        }
        for (int k = 3; k >= 0; k--) {
            due(x.back(k), 10 * k);
            due(x.count(9), 100 + k);
        }
        due(x.back(3), 30);
        due(x.count(9), 103);
    }

    @Edges.Says("NONE, and nothing happens, if it was never made,")
    private static void p31_noneIfItWasNeverMade() {
        DownOnly x = pictured();
        Edges.refused(x, y -> y.back(0), -1);
        due(x.back(2), -1);
        due(x.back(3), -1);
        due(x.back(1), 0);
        due(new DownOnly().back(0), -1);
    }

    @Edges.Says("if it was never made, or without it.")
    private static void p31_noneWithoutIt() {
        DownOnly x = Edges.told(HOUSE, "wait");
        for (int k = 0; k < 4; k++) {
            x.image(k);
        }
        x.tick(0, 5);
        Edges.refused(x, y -> y.back(4), -1);
        for (int k : Edges.NEVER) {
            due(x.back(k), -1);
        }
        due(x.count(4), 5);
    }
}
