/** The promises of the document, one method each, with answers reckoned by hand. */
public final class PromiseTest {
    private static final String HOUSE = "room 10;room 7;room 5;room 5;room 0;"
            + "flight 0 1 5;flight 1 2 4;flight 0 2 12;passage 2 3 3;flight 3 4 6;flight 2 4 20;"
            + "door 4 100 200;hoist 10 1 30;person 4;person 1;person 2";
    private static final int LEAST = Integer.MIN_VALUE;
    private static final int MOST = Integer.MAX_VALUE;
    private static int wrong;
    private static int asked;

    private PromiseTest() {
    }

    private static void due(String what, int got, int want) {
        asked++;
        if (got != want) {
            wrong++;
            System.out.println(what + " answered " + got + ", due is " + want);
        }
    }

    private static void due(String what, boolean got, boolean want) {
        due(what, got ? 1 : 0, want ? 1 : 0);
    }

    private static DownOnly told(String house, String... rules) {
        DownOnly x = new DownOnly();
        if (!house.isEmpty()) {
            due("house " + house, Texts.house(x, house) > 0, true);
        }
        for (int k = 0; k < rules.length; k++) {
            due("rule " + rules[k], Texts.rule(x, rules[k]), k);
        }
        return x;
    }

    private static int fault(int place, int kind) {
        return -2 - (1 + 8 * place + kind);
    }

    private static void houseFault(String text, int place, int kind) {
        DownOnly x = new DownOnly();
        due("the fault of house '" + text + "'", Texts.house(x, text), fault(place, kind));
        due("ROOMS behind the fault", x.count(0), 0);
        due("the TAPE behind the fault", x.count(10), 0);
    }

    private static void ruleFault(String text, int place, int kind) {
        DownOnly x = new DownOnly();
        due("the fault of rule '" + text + "'", Texts.rule(x, text), fault(place, kind));
        due("RULES behind the fault", x.count(3), 0);
        due("the TAPE behind the fault", x.count(10), 0);
    }

    private static void promise1NewObject() {
        DownOnly x = new DownOnly();
        for (int what = 0; what <= 13; what++) {
            due("count of a new object " + what, x.count(what), 0);
        }
        due("NONE", DownOnly.NONE, -1);
        due("new tick", x.tick(0, 1), -1);
        due("new back", x.back(0), -1);
        due("new room", x.room(0, 0), -1);
        due("new way", x.way(0, 0), -2);
        due("new person", x.person(0, 0), -2);
    }

    private static void promise2Feed() {
        DownOnly x = new DownOnly();
        due("feed", x.feed(0x726f6f6d, 0x20353b72, 0x6f6f6d20, 0x34303b70, 0x6572736f), 20);
        due("feed", x.feed(0x6e203100, 0, 0, -1, LEAST), 40);
        due("end", x.end(23), 23);
        due("the fed house", x.house(), 2);
        due("its HEIGHT", x.room(1, 0), 40);
        due("its HOME", x.person(0, 1), 1);
        for (int k = 1; k <= 20; k++) {
            due("feed " + k, x.feed(0, 0, 0, 0, 0), 20 * k);
        }
        due("feed beyond", x.feed(0, 0, 0, 0, 0), -1);
        due("the TAPE then", x.count(10), 400);
        x.end(381);
        due("feed beyond by one", x.feed(0, 0, 0, 0, 0), -1);
        due("the TAPE then", x.count(10), 381);
        x.end(380);
        due("feed to the brim", x.feed(0, 0, 0, 0, 0), 400);
        houseFaultByte();
    }

    private static void houseFaultByte() {
        DownOnly x = new DownOnly();
        x.feed(0xff000000, 0, 0, 0, 0);
        x.end(1);
        due("a byte above 127", x.house(), fault(0, 0));
    }

    private static void promise3End() {
        DownOnly x = new DownOnly();
        due("end 0", x.end(0), 0);
        due("end 1 of none", x.end(1), -1);
        due("end below 0", x.end(-1), -1);
        x.feed(0, 0, 0, 0, 0);
        due("end beyond", x.end(21), -1);
        due("end least", x.end(LEAST), -1);
        due("end most", x.end(MOST), -1);
        due("nothing happened", x.count(10), 20);
        due("end all", x.end(20), 20);
        due("end 7", x.end(7), 7);
        due("end 8 of 7", x.end(8), -1);
        due("the TAPE", x.count(10), 7);
    }

    private static String times(String text, int n, String between) {
        StringBuilder s = new StringBuilder();
        for (int k = 0; k < n; k++) {
            s.append(k == 0 ? "" : between).append(text);
        }
        return s.toString();
    }

    private static void promise4House() {
        DownOnly x = told(HOUSE, "wait");
        due("ROOMS", x.count(0), 5);
        due("WAYS", x.count(1), 6);
        due("PEOPLE", x.count(2), 3);
        due("TAPE", x.count(10), 0);
        due("one ROOM", Texts.house(x, "room0"), 1);
        due("blanks", Texts.house(x, "  room  0 ; room 00040  "), 2);
        due("none between", Texts.house(x, "room3;room1;flight0 1 60;door0 0 1439;hoist60 9 120;person1"), 2);
        houseFault("", 0, 0);
        houseFault("   ", 3, 0);
        houseFault("room", 4, 0);
        houseFault("room ", 5, 0);
        houseFault("room 41", 5, 1);
        houseFault("room 000001", 5, 1);
        houseFault("room 3;", 7, 0);
        houseFault("room 3 4", 7, 0);
        houseFault("room 3x", 6, 0);
        houseFault("rooms 3", 0, 0);
        houseFault("Room 3", 0, 0);
        houseFault("roomz 3", 0, 0);
        houseFault("room{3", 4, 0);
        houseFault("room`3", 4, 0);
        houseFault("room/3", 4, 0);
        houseFault("room 3:", 6, 0);
        houseFault("rooM 3", 0, 0);
        houseFault("room -3", 5, 0);
        houseFault(" ;room 3", 1, 0);
        houseFault("take 0", 0, 0);
        houseFault("flight 0 1 1", 7, 1);
        houseFault("room 3;flight 0 0 5", 16, 1);
        houseFault("room 3;room 3;flight 0 1 5", 23, 1);
        houseFault("room 2;room 3;flight 0 1 5", 23, 1);
        houseFault("room 3;room 2;flight 0 2 5", 23, 1);
        houseFault("room 3;room 2;flight 2 1 5", 21, 1);
        houseFault("room 3;room 2;flight 0 1 0", 25, 1);
        houseFault("room 3;room 2;flight 0 1 61", 25, 1);
        houseFault("room 3;room 2;flight 0 1", 24, 0);
        houseFault("room 3;room 2;passage 0 1 5", 24, 1);
        houseFault("room 3;room 3;passage 1 1 5", 24, 1);
        houseFault("room 3;room 3;passage 0 1 61", 26, 1);
        houseFault("room 3;door 0 1 2", 12, 1);
        houseFault("room 3;room 2;flight 0 1 5;door 0 1440 1440", 34, 1);
        houseFault("room 3;room 2;flight 0 1 5;door 0 7 1440", 36, 1);
        houseFault("room 3;room 2;flight 0 1 5;door 0 7 6", 36, 1);
        houseFault("hoist 0 1 1", 6, 1);
        houseFault("hoist 61 1 1", 6, 1);
        houseFault("hoist 5 10 1", 8, 1);
        houseFault("hoist 5 0 1", 8, 1);
        houseFault("hoist 5 1 0", 10, 1);
        houseFault("hoist 5 1 121", 10, 1);
        houseFault("hoist 5 1 1", 11, 0);
        houseFault("hoist 5 1 1  ", 13, 0);
        houseFault("room 3;hoist 5 1 1;hoist 5 1 1", 19, 4);
        houseFault("person 0", 7, 1);
        houseFault("room 3;person 1", 14, 1);
        houseFault(times("room1", 17, ";"), 16 * 6, 4);
        houseFault("room1;" + times("person0", 9, ";"), 6 + 8 * 8, 4);
        houseFault("room1;room0;" + times("flight0 1 9", 25, ";"), 12 + 12 * 24, 4);
        houseFault("room1;room1;" + times("passage0 1 9", 24, ";") + ";passage0 1 9", 12 + 13 * 24, 4);
        houseLimits();
        houseStays();
    }

    private static void houseLimits() {
        DownOnly x = new DownOnly();
        due("16 ROOMS", Texts.house(x, times("room1", 16, ";")), 16);
        due("24 WAYS", Texts.house(x, "room1;room0;" + times("flight0 1 9", 24, ";")), 2);
        due("8 PEOPLE", Texts.house(x, "room1;" + times("person0", 8, ";")), 1);
        String forty = "room1;room0;flight0 1 1;" + times("door0 1 1", 37, ";");
        due("40 CLAUSES", Texts.house(x, forty), 2);
        String shorter = times("room1", 15, ";") + ";room0;" + times("flight0 15 1", 15, ";") + ";" + times("person0", 8, ";") + ";hoist1 1 1";
        due("40 CLAUSES", Texts.house(x, shorter), 16);
        houseFault(shorter + ";door0 1 1", shorter.length() + 1, 4);
        houseFault(shorter + ";doors", shorter.length() + 1, 0);
        houseFault(shorter + ";", shorter.length() + 1, 0);
    }

    private static void houseStays() {
        DownOnly x = told(HOUSE, "wait");
        x.tick(0, 7);
        x.errand(0, 1, 2, 3);
        x.trip(0, 0, 1);
        x.rider(5);
        x.customer(0, 1);
        x.seed(99);
        int[] due = {5, 6, 3, 1, 7, 1, 1, 1, 1, 99, 0, 10, 1, 30};
        due("a fault", Texts.house(x, "room 50"), fault(5, 1));
        for (int what = 0; what < due.length; what++) {
            due("all stays, but the TAPE is empty: " + what, x.count(what), due[what]);
        }
        due("all stays: where one is", x.person(0, 0), 4);
        due("the TAPE was emptied", x.house(), fault(0, 0));
        due("fed anew", x.feed(0, 0, 0, 0, 0), 20);
        due("another house", Texts.house(x, "room 1;person 0"), 1);
        due("WAYS", x.count(1), 0);
        due("RULES stay", x.count(3), 1);
        due("NOW", x.count(4), 0);
        due("ERRANDS", x.count(5), 0);
        due("TRIPS", x.count(6), 0);
        due("RIDERS stay", x.count(7), 1);
        due("CUSTOMERS stay", x.count(8), 1);
        due("x stays", x.count(9), 99);
        due("no hoist", x.count(13), 0);
    }

    private static void promise5Rule() {
        DownOnly x = told("", "wait", "take 23;ride;wait", "ride if [not now=1]", "take 0if now<=1and here>0or top=1;wait",
                "wait if" + times(" [", 10, "") + "1=1" + times("]", 10, ""));
        due("TAPE", x.count(10), 0);
        ruleFaults();
        due("a fault", Texts.rule(x, "take"), fault(4, 0));
        due("the TAPE was emptied", x.rule(), fault(0, 0));
        due("fed anew", x.feed(0, 0, 0, 0, 0), 20);
        due("the sixth", Texts.rule(x, "wait"), 5);
        due("a seventh", Texts.rule(x, "wait"), -1);
        due("nothing happened", x.count(10), 4);
        due("a seventh with a fault", Texts.rule(x, "take"), -1);
        due("RULES", x.count(3), 6);
        ruleMeaning();
    }

    private static void ruleFaults() {
        ruleFault("", 0, 0);
        ruleFault("take", 4, 0);
        ruleFault("take 24", 5, 1);
        ruleFault("take 000001", 5, 1);
        ruleFault("ride if", 7, 0);
        ruleFault("waits", 0, 0);
        ruleFault("wait;", 5, 0);
        ruleFault("take 1 if now = 1]", 17, 0);
        ruleFault("ride 1", 5, 0);
        ruleFault("room 1", 0, 0);
        ruleFault("wait if now", 11, 0);
        ruleFault("wait if now < =1", 14, 0);
        ruleFault("wait if now => 1", 13, 0);
        ruleFault("wait if now == 1", 13, 0);
        ruleFault("wait if 1 = 1 = 1", 14, 0);
        ruleFault("wait if nowx = 1", 8, 0);
        ruleFault("wait if (1=1)", 8, 0);
        ruleFault("wait if -1 = 1", 8, 0);
        ruleFault("wait if 100000 = 1", 8, 1);
        ruleFault("wait if 1 = not 1", 12, 0);
        ruleFault("wait if [1=1", 12, 0);
        ruleFault("wait if []", 9, 0);
        ruleFault("wait if 1=1 and", 15, 0);
        ruleFault("wait if [1=1] = 1", 14, 0);
        ruleFault("wait ifnow=1", 5, 0);
        ruleFault("wait if " + times("[", 11, "") + "1=1" + times("]", 11, ""), 18, 2);
        ruleFault("wait if " + times("not", 11, " ") + " 1=1", 48, 2);
        ruleFault("wait if " + times("not [", 5, "") + "not 1=1" + times("]", 5, ""), 33, 2);
        ruleFault(times("wait", 13, ";"), 60, 4);
        ruleFault(times("wait", 12, ";") + ";weit", 60, 0);
        ruleFault(times("wait", 12, ";") + ";", 60, 0);
        // 59 values and a sign are 60 parts, the value behind the sign is one too many
        ruleFault("wait if " + times("1", 59, "+") + "=1", 8 + 117 + 1, 3);
        ruleFault("wait if " + times("1", 60, "+") + "=1", 8 + 119, 3);
        ruleFault("wait if " + times("1", 60, "+") + "+1", 8 + 120, 3);
        ruleFault("wait if " + times("1", 60, "+") + "+111111", 8 + 120, 1);
        ruleFault("wait if " + times("1", 60, "+") + "+or", 8 + 120, 0);
        ruleFault("wait if " + times("1", 60, "+") + "]", 8 + 119, 0);
        // the parts of all clauses count together
        ruleFault("wait if " + times("1=1", 10, " and ") + ";wait if " + times("1=1", 11, " or "), 83 + 9 + 70, 3);
        due("60 parts", Texts.rule(new DownOnly(), "wait if " + times("1", 58, "+") + "=1"), 0);
        due("60 parts", Texts.rule(new DownOnly(), times("wait if 1=1 or 1=1", 10, ";")), 0);
        due("12 clauses", Texts.rule(new DownOnly(), times("wait", 12, ";")), 0);
        due("not is over behind its fact", Texts.rule(new DownOnly(), "wait if " + times("not 1=1", 15, " and ")), 0);
    }

    /** Whether a test holds of the second person, who is in room 1 (not his home) at minute 0 with another. */
    private static boolean holds(String test) {
        DownOnly x = told("room 3;room 2;room 0;flight 1 2 5;person 1;person 1;person 0", "take 0 if person=1 and [" + test + "]");
        x.tick(0, 1);
        return x.person(1, 0) == -1;
    }

    private static void ruleMeaning() {
        due("<", holds("1<2"), true);
        due("<", holds("2<2"), false);
        due("<=", holds("2<=2"), true);
        due("<=", holds("3<=2"), false);
        due("=", holds("2=2"), true);
        due("=", holds("2=1"), false);
        due(">=", holds("2>=2"), true);
        due(">=", holds("1>=2"), false);
        due(">", holds("3>2"), true);
        due(">", holds("2>2"), false);
        due("* ahead of +", holds("2+3*4=14"), true);
        due("- from the left", holds("9-3-2=4"), true);
        due("/ from the left", holds("48/4/2*3=18"), true);
        due("/ towards 0", holds("7/2=3"), true);
        due("/ towards 0 below 0", holds("65536*65536*65536*32768/3*3-65536*65536*65536*32768=2"), true);
        due("/ by 0", holds("5/0=0"), true);
        due("/ by 0 in a row", holds("5/0*7+1=1"), true);
        due("64 bits", holds("99999*99999*99999*99999>0"), true);
        due("64 bits round", holds("65536*65536*65536*65536=0"), true);
        due("64 bits round below 0", holds("65536*65536*65536*32768<0"), true);
        due("and ahead of or", holds("1=1 or 1=1 and 1=2"), true);
        due("and ahead of or", holds("1=2 and 1=1 or 1=1"), true);
        due("brackets", holds("[1=1 or 1=1] and 1=2"), false);
        due("not binds its fact", holds("not 1=2 and 1=2"), false);
        due("not of brackets", holds("not [1=2 and 1=2]"), true);
        due("not not", holds("not not 1=1"), true);
        due("now", holds("now=0"), true);
        due("person", holds("person=1"), true);
        due("room", holds("room=1"), true);
        due("height", holds("height=2"), true);
        due("here", holds("here=2"), true);
        due("rode", holds("rode=0"), true);
        due("home", holds("home=1"), true);
        due("top", holds("top=0"), true);
    }

    private static void promise6Room() {
        DownOnly x = told(HOUSE + ";person 2");
        due("HEIGHT", x.room(0, 0), 10);
        due("HEIGHT", x.room(4, 0), 0);
        due("PEOPLE", x.room(2, 1), 12);
        due("PEOPLE", x.room(4, 1), 1);
        due("PEOPLE", x.room(0, 1), 0);
        due("TOP", x.room(0, 2), 1);
        due("TOP", x.room(1, 2), 0);
        due("no ROOM", x.room(5, 0), -1);
        due("no ROOM", x.room(-1, 0), -1);
        due("no ROOM", x.room(MOST, 1), -1);
        due("no what", x.room(0, 3), -1);
        due("no what", x.room(0, -1), -1);
        x.go(2, 5);
        due("one has gone", x.room(2, 1), 8);
        DownOnly y = told("room 4;room 9;room 9");
        due("the first of the highest", y.room(1, 2), 1);
        due("not the second", y.room(2, 2), 0);
    }

    private static void promise7Way() {
        DownOnly x = told(HOUSE + ";door 4 150 160");
        int[][] want = {{0, 1, 5, 0, -1, -1}, {1, 2, 4, 0, -1, -1}, {0, 2, 12, 0, -1, -1}, {2, 3, 3, 1, -1, -1}, {3, 4, 6, 0, 150, 160}};
        for (int way = 0; way < want.length; way++) {
            for (int what = 0; what < 6; what++) {
                due("way " + way + " " + what, x.way(way, what), want[way][what]);
            }
        }
        due("no WAY", x.way(6, 0), -2);
        due("no WAY", x.way(-1, 0), -2);
        due("no WAY", x.way(LEAST, 4), -2);
        due("no what", x.way(0, 6), -2);
        due("no what", x.way(0, -1), -2);
    }

    private static void promise8Person() {
        DownOnly x = told(HOUSE, "wait");
        int[] inRoom = {1, 1, 0, -1, -1};
        int[] onWay = {-1, 1, 0, 2, 4};
        int[] come = {2, 1, 0, -1, -1};
        for (int what = 0; what < 5; what++) {
            due("person at home " + what, x.person(1, what), inRoom[what]);
        }
        x.go(1, 1);
        for (int what = 0; what < 5; what++) {
            due("person on the way " + what, x.person(1, what), onWay[what]);
        }
        x.tick(0, 4);
        for (int what = 0; what < 5; what++) {
            due("person who has come " + what, x.person(1, what), come[what]);
        }
        due("no PERSON", x.person(3, 0), -2);
        due("no PERSON", x.person(-1, 0), -2);
        due("no what", x.person(0, 5), -2);
        due("no what", x.person(0, -1), -2);
    }

    private static void promise9Go() {
        DownOnly x = told(HOUSE, "ride", "wait");
        due("not from there", x.go(0, 0), false);
        due("a flight goes down alone", x.go(2, 1), false);
        due("no PERSON", x.go(3, 0), false);
        due("no PERSON", x.go(-1, 24), false);
        due("no WAY", x.go(1, 6), false);
        due("no WAY", x.go(1, -1), false);
        due("no WAY", x.go(1, 25), false);
        due("no WAY", x.go(1, MOST), false);
        due("a passage", x.go(2, 3), true);
        due("on the way", x.go(2, 3), false);
        due("rides", x.go(0, 24), true);
        due("no seat is left", x.go(1, 24), false);
        x.tick(0, 1);
        due("by the RULE too", x.person(1, 2), 0);
        due("the hoist does not leave", x.go(1, 24), false);
        due("a flight", x.go(1, 1), true);
        x.tick(1, 2);
        due("the other end", x.person(2, 0), 3);
        due("a passage back", x.go(2, 3), true);
        due("where to", x.person(2, 3), 2);
        x.tick(1, 27);
        due("at the TOP", x.person(0, 0), 0);
        due("ridden", x.person(0, 2), 1);
        due("once a day", x.go(0, 24), false);
        due("another", x.go(1, 24), true);
        goByDoors();
    }

    private static void goByDoors() {
        DownOnly x = told("room 1;room 0;flight 0 1 60;door 0 5 6;person 0;person 0;person 0;hoist 60 9 1", "wait");
        due("not open", x.go(0, 0), false);
        x.tick(0, 4);
        due("not yet", x.go(0, 0), false);
        x.tick(0, 1);
        due("from, counted", x.go(0, 0), true);
        x.tick(0, 1);
        due("till, counted", x.go(1, 0), true);
        x.tick(0, 1);
        due("closed", x.go(2, 0), false);
        x.tick(0, 1432);
        due("rides at 1439", x.go(2, 24), true);
        due("comes", x.person(2, 4), 1499);
        x.tick(0, 1);
        due("is on the way", x.person(2, 0), -1);
        due("at 1440", x.go(0, 24), false);
        due("no HOUSE", new DownOnly().go(0, 0), false);
        due("no HOUSE", new DownOnly().go(0, 24), false);
        DownOnly y = told("room 1;person 0");
        due("no hoist", y.go(0, 24), false);
    }

    private static void promise10Tick() {
        DownOnly x = told(HOUSE, "take 0 if room = 0;take 1 if room = 1;wait", "ride");
        due("no RULE", x.tick(2, 1), -1);
        due("no RULE", x.tick(-1, 1), -1);
        due("no minutes", x.tick(0, 0), -1);
        due("no minutes", x.tick(0, -1), -1);
        due("too many", x.tick(0, 1441), -1);
        due("too many", x.tick(0, MOST), -1);
        due("nothing happened", x.person(1, 0), 1);
        due("one", x.tick(0, 1), 1);
        due("on the way", x.person(1, 3), 2);
        due("three more", x.tick(0, 3), 4);
        due("there", x.person(1, 0), 2);
        due("to 31", x.tick(1, 27), 31);
        due("the first rides", x.person(0, 2), 1);
        due("one seat", x.person(1, 2), 0);
        due("to 91", x.tick(1, 60), 91);
        due("the third rides", x.person(2, 4), 100);
        due("too far", x.tick(0, 1350), -1);
        due("NOW", x.count(4), 91);
        due("to the end", x.tick(0, 1349), 1440);
        due("no more", x.tick(0, 1), -1);
        DownOnly y = told("", "wait");
        due("without a HOUSE", y.tick(0, 1440), 1440);
        tickOrder();
        tickEnd();
    }

    private static void tickOrder() {
        DownOnly x = told("room 1;room 0;flight 0 1 9;person 0;person 0;person 0", "take 0 if here > 1");
        x.tick(0, 1);
        due("those with fewer numbers have gone: 0, 1, not 2", x.room(0, 1), 4);
        DownOnly y = told("room 1;room 0;flight 0 1 9;door 0 3 9;person 0", "take 5;take 0;ride;wait;take 0");
        y.tick(0, 3);
        due("what can't be done is passed over", y.person(0, 0), 0);
        y.tick(0, 1);
        due("done when it can", y.person(0, 4), 12);
        DownOnly z = told("room 1;room 0;flight 0 1 9;person 0", "wait if now < 2;take 0", "take 0 if 1=2");
        z.tick(0, 2);
        due("waits", z.person(0, 0), 0);
        z.tick(1, 1);
        due("none: waits", z.person(0, 0), 0);
        z.tick(0, 1);
        due("goes", z.person(0, 4), 12);
        DownOnly two = told("room 1;room 0;hoist 5 2 10;person 1;person 1;person 1", "ride");
        two.tick(0, 10);
        due("two seats", two.room(0, 1), 3);
        two.tick(0, 1);
        due("none rides twice", two.room(0, 1), 3);
        due("the third", two.person(2, 4), 15);
    }

    private static void tickEnd() {
        DownOnly x = told("room 3;room 1;flight 0 1 60;person 1;person 0;person 0", "take 0 if now = 1379 and person = 1;take 0 if now = 1380");
        x.tick(0, 1439);
        due("comes at 1439", x.person(1, 0), 1);
        x.tick(0, 1);
        due("would come at 1440", x.person(2, 0), -1);
        due("to", x.person(2, 3), 1);
        due("at", x.person(2, 4), 1440);
    }

    private static void promise11Ahead() {
        DownOnly x = told(HOUSE, "take 0 if room = 0;take 1 if room = 1;wait", "ride", "take 5 if now = 1425");
        due("HOME", x.ahead(0, 0), 2);
        due("on the way", x.ahead(0, 1), 0);
        due("ridden", x.ahead(0, 2), 0);
        due("HOME", x.ahead(1, 0), 0);
        due("ridden", x.ahead(1, 2), 3);
        due("on the way", x.ahead(2, 1), 1);
        due("nothing changes", x.count(4), 0);
        due("nothing changes", x.person(0, 2), 0);
        due("no RULE", x.ahead(3, 0), -1);
        due("no RULE", x.ahead(-1, 0), -1);
        due("no what", x.ahead(0, 3), -1);
        due("no what", x.ahead(0, -1), -1);
        x.go(0, 24);
        due("from NOW on", x.ahead(0, 0), 1);
        due("he has ridden", x.ahead(0, 2), 1);
        x.tick(2, 1440);
        due("at 1440", x.ahead(1, 2), 1);
        DownOnly late = told("room 1;room 0;flight 0 1 1;person 0", "take 0 if now >= 1440");
        late.tick(0, 20);
        due("till 1440", late.ahead(0, 1), 0);
        DownOnly y = told("", "wait");
        for (int what = 0; what < 3; what++) {
            due("without a HOUSE", y.ahead(0, what), 0);
        }
        due("without a HOUSE, no RULE", y.ahead(1, 0), -1);
        DownOnly z = told("room 1;room 0;hoist 1 1 120;person 1;person 1", "ride if now = 0");
        z.go(1, 24);
        due("seats taken by hand in this minute", z.ahead(0, 2), 1);
    }

    private static void promise12Soonest() {
        DownOnly x = told(HOUSE);
        due("down", x.soonest(0, 0, 4, false), 29);
        due("by the door", x.soonest(0, 90, 4, false), 108);
        due("wait for the door", x.soonest(3, 0, 4, false), 23);
        due("the door's last minute", x.soonest(3, 200, 4, false), 206);
        due("the door is closed", x.soonest(3, 201, 4, false), 224);
        due("up", x.soonest(4, 0, 0, false), -2);
        due("up by the hoist", x.soonest(4, 0, 0, true), 10);
        due("the next hoist", x.soonest(4, 1, 0, true), 40);
        due("up and down", x.soonest(4, 1, 3, true), 52);
        due("the last hoist", x.soonest(4, 1410, 0, true), 1420);
        due("no hoist any more", x.soonest(4, 1411, 0, true), -2);
        due("to itself", x.soonest(4, 77, 4, false), 77);
        due("at 1439", x.soonest(0, 1434, 1, true), 1439);
        due("at 1440", x.soonest(0, 1435, 1, true), -2);
        due("no ROOM", x.soonest(5, 0, 0, true), -1);
        due("no ROOM", x.soonest(0, 0, 5, true), -1);
        due("no ROOM", x.soonest(0, 0, -1, true), -1);
        due("no minute", x.soonest(0, 1440, 0, true), -1);
        due("no minute", x.soonest(0, -1, 0, true), -1);
        due("no HOUSE", new DownOnly().soonest(0, 0, 0, true), -1);
        DownOnly y = told("room 9;room 5;room 0;flight 0 1 1;flight 1 2 1;door 0 50 50;hoist 5 1 10");
        due("a ride to be kept", y.soonest(1, 0, 1, true), 0);
        due("one ride alone", y.soonest(2, 51, 1, true), -2);
        due("rides past the door", y.soonest(2, 41, 1, true), -2);
        due("rides to the door", y.soonest(2, 40, 2, true), 40);
        due("waits on top", y.soonest(2, 31, 1, true), 51);
        DownOnly z = told("room 1;room 0");
        due("no hoist in the HOUSE", z.soonest(1, 0, 0, true), -2);
    }

    private static void promise13Still() {
        DownOnly x = told(HOUSE);
        due("from below", x.still(4, 0, false), 16);
        due("with the hoist", x.still(4, 0, true), 31);
        due("late", x.still(0, 1434, false), 3);
        due("later", x.still(0, 1435, false), 1);
        due("at the end", x.still(0, 1439, true), 1);
        due("both ways", x.still(3, 0, false), 28);
        due("no ROOM", x.still(5, 0, true), -1);
        due("no minute", x.still(0, 1440, true), -1);
        due("no minute", x.still(0, -1, true), -1);
        due("no HOUSE", new DownOnly().still(0, 0, true), -1);
    }

    private static void promise14Downs() {
        DownOnly x = told(HOUSE);
        due("how many", x.downs(0, 4, 0), 2);
        due("the LONGEST", x.downs(0, 4, 1), 3);
        due("its first", x.downs(0, 4, 2), 0);
        due("to itself", x.downs(2, 2, 0), 1);
        due("to itself", x.downs(2, 2, 1), 0);
        due("to itself", x.downs(2, 2, 2), -2);
        due("up", x.downs(4, 0, 0), 0);
        due("up", x.downs(4, 0, 1), -2);
        due("up", x.downs(4, 0, 2), -2);
        due("a passage is no flight", x.downs(0, 3, 0), 0);
        due("doors not asked", x.downs(3, 4, 1), 1);
        due("doors not asked", x.downs(3, 4, 2), 4);
        due("no ROOM", x.downs(5, 0, 0), -1);
        due("no ROOM", x.downs(0, -1, 0), -1);
        due("no what", x.downs(0, 0, 3), -1);
        due("no what", x.downs(0, 0, -1), -1);
        DownOnly y = told("room3;room2;room1;flight1 2 1;flight0 2 1;flight0 1 2;flight0 1 1;flight1 2 9");
        due("rows of flights side by side", y.downs(0, 2, 0), 5);
        due("the LONGEST", y.downs(0, 2, 1), 2);
        due("the least first", y.downs(0, 2, 2), 2);
        due("from the highest", told("room 40;room 0;flight 0 1 1").downs(0, 1, 0), 1);
        due("from the highest", told("room 40;room 0;flight 0 1 1").downs(0, 1, 1), 1);
        StringBuilder s = new StringBuilder("room8;room7;room6;room5;room4;room3;room2;room1;room0");
        for (int k = 0; k < 8; k++) {
            s.append(times(";flight" + k + " " + (k + 1) + " 1", 3, ""));
        }
        due("3 to the 8th", told(s.toString()).downs(0, 8, 0), 6561);
    }

    private static void promise15Errand() {
        DownOnly x = told(HOUSE);
        due("the first", x.errand(0, 0, 1439, 99), 0);
        due("the second", x.errand(4, 1439, 1439, 0), 1);
        due("no ROOM", x.errand(5, 0, 1, 1), -1);
        due("no ROOM", x.errand(-1, 0, 1, 1), -1);
        due("from", x.errand(0, -1, 1, 1), -1);
        due("from", x.errand(0, 1440, 1440, 1), -1);
        due("till", x.errand(0, 0, 1440, 1), -1);
        due("till below from", x.errand(0, 5, 4, 1), -1);
        due("worth", x.errand(0, 0, 1, 100), -1);
        due("worth", x.errand(0, 0, 1, -1), -1);
        due("ERRANDS", x.count(5), 2);
        for (int k = 2; k < 10; k++) {
            due("errand", x.errand(1, 0, 9, 1), k);
        }
        due("an eleventh", x.errand(1, 0, 9, 1), -1);
        due("no HOUSE", new DownOnly().errand(0, 0, 1, 1), -1);
    }

    private static void best(DownOnly x, int from, int minute, boolean hoist, int worth, int set, int done) {
        due("BEST worth", x.best(from, minute, hoist, 0), worth);
        due("BEST set", x.best(from, minute, hoist, 1), set);
        due("BEST when", x.best(from, minute, hoist, 2), done);
    }

    private static void promise16Best() {
        DownOnly x = told(HOUSE);
        best(x, 3, 17, true, 0, 0, 17);
        x.errand(4, 0, 300, 10);
        x.errand(0, 0, 9, 7);
        x.errand(1, 20, 30, 5);
        best(x, 0, 0, false, 22, 7, 44);
        best(x, 0, 10, false, 15, 5, 44);
        best(x, 4, 0, false, 10, 1, 0);
        best(x, 4, 0, true, 15, 5, 20);
        best(x, 4, 31, true, 10, 1, 31);
        best(x, 0, 301, true, 0, 0, 301);
        due("no ROOM", x.best(5, 0, true, 0), -1);
        due("no minute", x.best(0, 1440, true, 0), -1);
        due("no minute", x.best(0, -1, true, 0), -1);
        due("no what", x.best(0, 0, true, 3), -1);
        due("no what", x.best(0, 0, true, -1), -1);
        due("no HOUSE", new DownOnly().best(0, 0, true, 0), -1);
        DownOnly y = told("room 1;room 0;room 0;flight 0 1 5;flight 0 2 4;passage 1 2 60");
        y.errand(1, 0, 50, 6);
        y.errand(2, 0, 50, 6);
        best(y, 0, 0, false, 6, 2, 4);
        y.errand(2, 0, 50, 0);
        best(y, 0, 0, false, 6, 2, 4);
        y.errand(0, 0, 9, 0);
        best(y, 0, 0, false, 6, 2, 4);
        y.errand(1, 2, 60, 6);
        best(y, 0, 0, false, 12, 17, 5);
        DownOnly z = told("room 1;room 0;room 0;flight 0 1 5;flight 0 2 5");
        z.errand(2, 0, 50, 6);
        z.errand(1, 0, 50, 6);
        best(z, 0, 0, true, 6, 1, 5);
        z.errand(2, 5, 5, 1);
        best(z, 0, 0, true, 7, 5, 5);
    }

    private static void meeting(DownOnly x, int[] from, boolean hoist, int minute, int room, int many) {
        due("MEETING minute", x.meeting(from[0], from[1], from[2], from[3], hoist, 0), minute);
        due("MEETING room", x.meeting(from[0], from[1], from[2], from[3], hoist, 1), room);
        due("MEETING rooms", x.meeting(from[0], from[1], from[2], from[3], hoist, 2), many);
    }

    private static void promise17Meeting() {
        DownOnly x = told(HOUSE);
        meeting(x, new int[] {0, 0, 1, 0}, false, 5, 1, 4);
        meeting(x, new int[] {0, 0, 1, 6}, false, 6, 1, 4);
        meeting(x, new int[] {0, 0, 3, 0}, false, 9, 2, 3);
        meeting(x, new int[] {4, 0, 0, 1420}, false, -2, -2, 0);
        meeting(x, new int[] {4, 0, 0, 1419}, false, -2, -2, 0);
        meeting(x, new int[] {4, 0, 0, 0}, false, 29, 4, 1);
        meeting(x, new int[] {4, 0, 0, 0}, true, 10, 0, 5);
        meeting(x, new int[] {2, 5, 2, 7}, false, 7, 2, 3);
        due("no ROOM", x.meeting(5, 0, 0, 0, true, 0), -1);
        due("no ROOM", x.meeting(0, 0, -1, 0, true, 0), -1);
        due("no minute", x.meeting(0, 1440, 0, 0, true, 0), -1);
        due("no minute", x.meeting(0, 0, 0, -1, true, 0), -1);
        due("no what", x.meeting(0, 0, 0, 0, true, 3), -1);
        DownOnly y = told("room 5;room 1;room 1;flight 0 1 4;flight 0 2 4");
        meeting(y, new int[] {0, 3, 0, 0}, false, 3, 0, 3);
        DownOnly z = told("room 5;room 5;room 1;room 1;flight 0 3 4;flight 0 2 4;flight 1 2 4;flight 1 3 4");
        meeting(z, new int[] {0, 0, 1, 0}, false, 4, 2, 2);
    }

    private static void promise18Trip() {
        DownOnly x = told(HOUSE);
        due("the first", x.trip(0, 0, 4), 1);
        due("to itself", x.trip(4, 5, 4), 2);
        due("no way", x.trip(4, 0, 0), -2);
        due("no way today", x.trip(0, 1435, 1), -2);
        due("no ROOM", x.trip(5, 0, 0), -2);
        due("no ROOM", x.trip(-2, 0, 0), -2);
        due("no ROOM", x.trip(0, 0, 5), -2);
        due("no minute", x.trip(0, 1440, 0), -2);
        due("no minute", x.trip(0, -1, 0), -2);
        due("TRIPS", x.count(6), 2);
        for (int k = 3; k <= 12; k++) {
            due("trip", x.trip(1, 1439, 1), k);
        }
        due("a thirteenth", x.trip(0, 0, 4), -2);
        due("none then", x.trip(-1, -5, 77), 0);
        due("TRIPS", x.count(6), 0);
        due("the first anew", x.trip(0, 0, 4), 1);
        due("no HOUSE", new DownOnly().trip(0, 0, 0), -2);
        due("no HOUSE, none", new DownOnly().trip(-1, 0, 0), 0);
    }

    private static DownOnly toAndFro() {
        return told("room 1;room 1;room 0;passage 0 1 1;flight 0 2 5;door 1 10 20");
    }

    private static void promise19Trips() {
        DownOnly x = told(HOUSE);
        x.trip(0, 0, 4);
        x.trip(4, 5, 4);
        x.trip(0, 90, 4);
        int[] want = {29, 0, 1, 5, -2};
        int[] byDoor = {108, 0, 1, 3, 4, -2};
        for (int k = -1; k < 4; k++) {
            due("trips 0 " + k, x.trips(0, k), want[k + 1]);
        }
        for (int k = -1; k < 5; k++) {
            due("trips 2 " + k, x.trips(2, k), byDoor[k + 1]);
        }
        due("no WAY", x.trips(1, 0), -2);
        due("there at once", x.trips(1, -1), 5);
        due("far beyond", x.trips(0, MOST), -2);
        due("k below -1", x.trips(0, -2), -1);
        due("no TRIP", x.trips(3, 0), -1);
        due("no TRIP", x.trips(-1, 0), -1);
        DownOnly y = toAndFro();
        y.trip(0, 0, 2);
        due("as the door lets", y.trips(0, -1), 15);
        for (int k = 0; k < 10; k++) {
            due("the least WAY by which he still comes", y.trips(0, k), 0);
        }
        due("when no other does", y.trips(0, 10), 1);
        due("no more", y.trips(0, 11), -2);
        DownOnly z = told("room 2;room 1;room 0;flight 0 1 5;flight 0 1 2;flight 1 2 5;door 2 10 20");
        z.trip(0, 3, 2);
        due("slow, but in time", z.trips(0, 0), 0);
        z.trip(0, 6, 2);
        due("fast, to be soonest", z.trips(1, 0), 1);
    }

    private static void promise20Brought() {
        DownOnly x = told(HOUSE);
        due("by nobody", x.brought(0, 0, 4), -2);
        due("it is there", x.brought(0, 6, 0), 6);
        x.trip(0, 0, 4);
        due("with a TRIP", x.brought(0, 0, 4), 29);
        due("as far as one likes", x.brought(0, 0, 2), 9);
        due("on its way", x.brought(1, 5, 4), 29);
        due("behind it", x.brought(1, 6, 4), -2);
        due("not where it goes by", x.brought(3, 0, 4), -2);
        x.trip(2, 9, 3);
        due("from one to another at once", x.brought(0, 0, 3), 12);
        x.trip(3, 13, 4);
        due("then another", x.brought(0, 0, 4), 29);
        x.trip(3, 94, 4);
        due("there", x.brought(3, 14, 4), 106);
        due("no ROOM", x.brought(5, 0, 0), -1);
        due("no ROOM", x.brought(0, 0, -1), -1);
        due("no minute", x.brought(0, 1440, 0), -1);
        due("no minute", x.brought(0, -1, 0), -1);
        due("no HOUSE", new DownOnly().brought(0, 0, 0), -1);
        DownOnly y = toAndFro();
        y.trip(0, 0, 2);
        due("it comes while he is about", y.brought(0, 9, 2), 15);
        due("when he sets off", y.brought(0, 10, 2), 15);
        due("too late", y.brought(0, 11, 2), -2);
        due("where he goes by", y.brought(1, 2, 2), 15);
        due("and back", y.brought(1, 9, 0), 10);
        due("and not again", y.brought(1, 10, 0), -2);
        DownOnly chain = told("room 4;room 3;room 2;room 1;flight 0 1 5;flight 1 2 5;flight 2 3 5");
        chain.trip(2, 20, 3);
        chain.trip(1, 10, 2);
        chain.trip(0, 0, 1);
        due("by three, the last told first", chain.brought(0, 0, 3), 25);
        due("by two", chain.brought(1, 10, 3), 25);
        due("the first is gone", chain.brought(0, 1, 3), -2);
        DownOnly z = told("room 2;room 0;flight 0 1 5;door 0 50 60");
        z.trip(0, 0, 1);
        due("when he sets off, not when he begins", z.brought(0, 50, 1), 55);
        due("behind him", z.brought(0, 51, 1), -2);
    }

    private static void promise21Rider() {
        DownOnly x = new DownOnly();
        due("one", x.rider(0), 1);
        due("two", x.rider(1439), 2);
        due("no minute", x.rider(1440), -2);
        due("no minute", x.rider(-2), -2);
        for (int k = 3; k <= 20; k++) {
            due("rider", x.rider(7), k);
        }
        due("one too many", x.rider(7), -2);
        due("RIDERS", x.count(7), 20);
        due("none then", x.rider(-1), 0);
        due("RIDERS", x.count(7), 0);
    }

    private static void promise22Rides() {
        DownOnly x = told("room 1;hoist 5 2 60");
        due("nobody rides", x.rides(20), -2);
        due("no RIDER", x.rides(0), -1);
        int[] wants = {61, 50, 61, 62, 50, 50, 1381, 1320, 1320, 1380, 0};
        int[] rides = {120, 60, 180, 180, 60, 120, -2, 1320, 1320, 1380, 0};
        for (int minute : wants) {
            x.rider(minute);
        }
        for (int k = 0; k < wants.length; k++) {
            due("rides " + k, x.rides(k), rides[k]);
        }
        due("the most", x.rides(20), 119);
        due("no RIDER", x.rides(11), -1);
        due("no RIDER", x.rides(-1), -1);
        due("no what", x.rides(21), -1);
        DownOnly y = told("room 1");
        y.rider(0);
        due("no hoist", y.rides(0), -1);
        due("no hoist", y.rides(20), -1);
        DownOnly each = told("room 1;hoist 60 1 1");
        int[] crowd = {9, 9, 10, 9};
        int[] ride = {9, 10, 12, 11};
        for (int minute : crowd) {
            each.rider(minute);
        }
        for (int k = 0; k < crowd.length; k++) {
            due("rides every minute " + k, each.rides(k), ride[k]);
        }
        DownOnly z = told("room 1;hoist 60 1 120");
        for (int k = 0; k < 3; k++) {
            z.rider(1319 + k);
        }
        z.rider(1400);
        int[] late = {1320, -2, -2, -2};
        for (int k = 0; k < 4; k++) {
            due("late rides " + k, z.rides(k), late[k]);
        }
        due("who rides waits", z.rides(20), 1);
        z.rider(-1);
        z.rider(1400);
        z.rider(1401);
        due("nobody rides", z.rides(20), -2);
        due("not today", z.rides(1), -2);
    }

    private static void promise23Customer() {
        DownOnly x = new DownOnly();
        due("one", x.customer(0, 5), 1);
        due("two", x.customer(5, 0), 2);
        due("unlike", x.customer(3, 3), -2);
        due("no SHOP", x.customer(6, 0), -2);
        due("no SHOP", x.customer(0, 6), -2);
        due("no SHOP", x.customer(0, -1), -2);
        due("no SHOP", x.customer(-2, 0), -2);
        for (int k = 3; k <= 10; k++) {
            due("customer", x.customer(1, 2), k);
        }
        due("one too many", x.customer(1, 2), -2);
        due("CUSTOMERS", x.count(8), 10);
        due("none then", x.customer(-1, 9), 0);
        due("CUSTOMERS", x.count(8), 0);
    }

    private static void order(DownOnly x, int n, int... rowAndMany) {
        for (int place = 0; place < n; place++) {
            due("ORDER of " + n + " at " + place, x.order(n, place), rowAndMany[place]);
        }
        due("ORDER of " + n + ", CUSTOMERS", x.order(n, 6), rowAndMany[n]);
    }

    private static void promise24Order() {
        DownOnly x = new DownOnly();
        order(x, 3, 0, 1, 2, 0);
        x.customer(2, 0);
        x.customer(1, 0);
        order(x, 1, 0, 0);
        order(x, 2, 1, 0, 1);
        order(x, 3, 1, 2, 0, 2);
        order(x, 6, 1, 2, 0, 3, 4, 5, 2);
        x.customer(0, 1);
        order(x, 2, 0, 1, 1);
        order(x, 3, 1, 2, 0, 2);
    }

    private static void promise24OrderCycle() {
        DownOnly x = new DownOnly();
        x.customer(0, 1);
        x.customer(1, 2);
        x.customer(2, 0);
        order(x, 3, 0, 1, 2, 2);
        x.customer(2, 0);
        order(x, 3, 1, 2, 0, 3);
        x.customer(5, 4);
        x.customer(4, 3);
        order(x, 6, 1, 2, 0, 5, 4, 3, 5);
        due("no n", x.order(0, 0), -1);
        due("no n", x.order(7, 0), -1);
        due("no what", x.order(3, 7), -1);
        due("no what", x.order(3, -1), -1);
        due("a place beyond n", x.order(3, 3), -1);
        due("a place beyond n", x.order(5, 5), -1);
    }

    private static void promise25Beds() {
        due("no HOUSE", new DownOnly().beds(), -1);
        DownOnly x = told("room 3;room 1;flight 0 1 60;hoist 10 1 60;person 0;person 1;person 0", "wait");
        due("at home", x.beds(), 0);
        x.go(0, 0);
        due("can ride again", x.beds(), 0);
        x.go(2, 24);
        due("rides to the TOP, his HOME", x.beds(), 0);
        x.tick(0, 60);
        due("below", x.beds(), 0);
        x.tick(0, 1320);
        due("the last hoist", x.beds(), 0);
        x.go(2, 0);
        due("comes at 1440, has ridden", x.beds(), 4);
        x.tick(0, 1);
        due("the hoist is gone", x.beds(), 5);
        x.tick(0, 59);
        due("at 1440", x.beds(), 5);
        DownOnly close = told("room 3;room 3;passage 0 1 20;person 0", "wait");
        close.tick(0, 1399);
        close.go(0, 0);
        due("home by 1439", close.beds(), 0);
        close.tick(0, 20);
        due("home by 1439", close.beds(), 0);
        close.tick(0, 1);
        due("home by 1440", close.beds(), 1);
        DownOnly y = told("room 3;room 1;flight 0 1 60;person 1;person 0;person 0", "take 0 if person = 2 and now = 1380");
        y.go(1, 0);
        due("no hoist", y.beds(), 2);
        y.tick(0, 1440);
        due("on the way at 1440", y.beds(), 6);
    }

    private static void promise26Upward() {
        DownOnly x = told("room 2;room 1;room 0;flight 0 1 1;flight 1 2 1");
        due("the flight", x.upward(0), 0);
        due("twos then", x.upward(1), 4);
        due("twos now", x.upward(2), 3);
        DownOnly y = told("room 2;room 1;room 0;room 2;flight 0 1 1;flight 1 2 1;flight 0 2 60;passage 0 3 1;door 3 0 0");
        due("the flight", y.upward(0), 2);
        due("twos then", y.upward(1), 12);
        due("twos now", y.upward(2), 7);
        DownOnly z = told("room 2;room 2;passage 0 1 1;hoist 1 1 1");
        due("no flight", z.upward(0), -2);
        due("no flight", z.upward(1), -2);
        due("twos now", z.upward(2), 2);
        due("no what", z.upward(3), -1);
        due("no what", z.upward(-1), -1);
        DownOnly none = new DownOnly();
        none.image(0);
        due("a fault", Texts.house(none, "room 50"), fault(5, 1));
        upwardWithoutHouse(none);
        Texts.house(none, "room 2;room 1;flight 0 1 1");
        due("with a HOUSE", none.upward(0), 0);
        none.back(0);
        upwardWithoutHouse(none);
        DownOnly alone = told("room 2");
        due("no flight", alone.upward(0), -2);
        due("no flight", alone.upward(1), -2);
        due("no twos", alone.upward(2), 0);
    }

    private static void upwardWithoutHouse(DownOnly x) {
        for (int what = -1; what <= 3; what++) {
            due("without a HOUSE " + what, x.upward(what), -1);
        }
    }

    private static void promise27Seed() {
        DownOnly x = new DownOnly();
        due("0 at first", x.seed(5), 0);
        due("what it was", x.seed(MOST), 5);
        due("below 0", x.seed(-1), -1);
        due("below 0", x.seed(LEAST), -1);
        due("nothing happened", x.seed(0), MOST);
        due("x", x.count(9), 0);
    }

    private static void promise28Drawn() {
        DownOnly x = told("room 3;room 2;room 1;room 0;flight 0 3 1;person 3;person 0;person 2", "wait", "take 0", "take 0 if now = 1439");
        // from 0: 12345, 1406932606, 654583775, 1449466924, ... gives DRAWS 0, 21468, 9988, 22117, 3498 and so on
        due("HOME of a day", x.drawn(0, 1, 0), 1);
        due("nobody on the way", x.drawn(0, 1, 1), 0);
        due("x as it was", x.count(9), 0);
        due("one more at HOME", x.drawn(1, 1, 0), drawnHome(1));
        due("on the way", x.drawn(2, 1, 1), drawnAway(1));
        due("of 20 days", x.drawn(1, 20, 0), drawnHome(20));
        due("of 20 days", x.drawn(2, 20, 1), drawnAway(20));
        due("NOW stays", x.count(4), 0);
        due("PEOPLE stay", x.person(0, 0), 3);
        due("no RULE", x.drawn(3, 1, 0), -1);
        due("no RULE", x.drawn(-1, 1, 0), -1);
        due("no days", x.drawn(0, 0, 0), -1);
        due("too many days", x.drawn(0, 21, 0), -1);
        due("no what", x.drawn(0, 1, 2), -1);
        due("no what", x.drawn(0, 1, -1), -1);
        x.go(1, 0);
        x.tick(0, 1440);
        due("from a new day, whatever NOW is", x.drawn(1, 20, 0), drawnHome(20));
        x.seed(42);
        int first = x.drawn(0, 3, 0);
        due("x as it was", x.drawn(0, 3, 0), first);
        due("x as it was", x.seed(0), 42);
        DownOnly none = told("", "wait");
        due("without a HOUSE", none.drawn(0, 1, 0), -1);
        due("without a HOUSE", none.drawn(0, 20, 1), -1);
        Texts.house(none, "room 1");
        due("without PEOPLE", none.drawn(0, 20, 0), 0);
        due("without PEOPLE", none.drawn(0, 20, 1), 0);
    }

    /** In the house of promise 28 who is drawn into room 0 comes to room 3, by rule 1. */
    private static int drawnHome(int days) {
        int[] home = {3, 0, 2};
        long x = 0;
        int sum = 0;
        for (int k = 0; k < 3 * days; k++) {
            x = (x * 1103515245L + 12345L) % 2147483648L;
            int room = (int) (x / 65536) % 4;
            sum += (room == 0 ? 3 : room) == home[k % 3] ? 1 : 0;
        }
        return sum;
    }

    private static int drawnAway(int days) {
        long x = 0;
        int sum = 0;
        for (int k = 0; k < 3 * days; k++) {
            x = (x * 1103515245L + 12345L) % 2147483648L;
            sum += (int) (x / 65536) % 4 == 0 ? 1 : 0;
        }
        return sum;
    }

    private static void promise29Count() {
        DownOnly x = told(HOUSE, "wait", "ride");
        x.tick(0, 9);
        x.errand(0, 0, 0, 0);
        x.trip(0, 0, 0);
        x.trip(0, 0, 0);
        x.rider(1);
        x.rider(1);
        x.rider(1);
        x.customer(0, 1);
        x.seed(123456);
        x.feed(0, 0, 0, 0, 0);
        x.end(13);
        int[] want = {5, 6, 3, 2, 9, 1, 2, 3, 1, 123456, 13, 10, 1, 30};
        for (int what = 0; what < want.length; what++) {
            due("count " + what, x.count(what), want[what]);
        }
        due("no what", x.count(14), -1);
        due("no what", x.count(-1), -1);
        due("no what", x.count(LEAST), -1);
    }

    private static void promise30Image() {
        DownOnly x = told(HOUSE, "wait");
        x.tick(0, 33);
        due("NOW", x.image(0), 33);
        due("NOW", x.image(3), 33);
        due("no IMAGE", x.image(4), -1);
        due("no IMAGE", x.image(-1), -1);
        x.tick(0, 1);
        due("made anew", x.image(0), 34);
        due("gone back to", x.back(3), 33);
        due("gone back to", x.back(0), 34);
        due("without a HOUSE", new DownOnly().image(1), 0);
    }

    private static void promise31Back() {
        DownOnly x = told("", "wait");
        due("never made", x.back(0), -1);
        due("no IMAGE", x.back(4), -1);
        due("no IMAGE", x.back(-1), -1);
        x.image(0);
        Texts.house(x, HOUSE);
        x.go(0, 24);
        x.errand(0, 0, 9, 9);
        x.trip(0, 0, 4);
        x.rider(4);
        x.customer(3, 1);
        x.seed(77);
        due("made", x.image(1), 0);
        due("no seat in this minute", x.go(1, 24), false);
        x.tick(0, 30);
        x.go(1, 24);
        Texts.rule(x, "ride");
        Texts.house(x, "room 0");
        x.feed(0, 0, 0, 0, 0);
        x.rider(-1);
        x.customer(-1, 0);
        x.seed(1);
        due("gone back to", x.back(1), 0);
        int[] want = {5, 6, 3, 2, 0, 1, 1, 1, 1, 77, 20, 10, 1, 30};
        for (int what = 0; what < want.length; what++) {
            due("count behind back " + what, x.count(what), want[what]);
        }
        due("where he was", x.person(0, 4), 10);
        due("who has ridden", x.person(1, 2), 0);
        due("the seats of this minute", x.go(1, 24), false);
        due("the trip", x.trips(0, 1), 1);
        due("the errand", x.best(0, 0, false, 0), 9);
        due("the rider", x.rides(0), 30);
        due("the customer", x.order(4, 0), 0);
        due("the door", x.way(4, 5), 200);
        x.tick(0, 5);
        due("again", x.back(1), 0);
        due("to no HOUSE", x.back(0), 0);
        due("ROOMS", x.count(0), 0);
        due("no hoist", x.count(13), 0);
        due("RULES stay", x.count(3), 2);
        due("the other is still there", x.back(1), 0);
        due("ROOMS", x.count(0), 5);
    }

    public static void main(String[] args) {
        promise1NewObject();
        promise2Feed();
        promise3End();
        promise4House();
        promise5Rule();
        promise6Room();
        promise7Way();
        promise8Person();
        promise9Go();
        promise10Tick();
        promise11Ahead();
        promise12Soonest();
        promise13Still();
        promise14Downs();
        promise15Errand();
        promise16Best();
        promise17Meeting();
        promise18Trip();
        promise19Trips();
        promise20Brought();
        promise21Rider();
        promise22Rides();
        promise23Customer();
        promise24Order();
        promise24OrderCycle();
        promise25Beds();
        promise26Upward();
        promise27Seed();
        promise28Drawn();
        promise29Count();
        promise30Image();
        promise31Back();
        System.out.println(asked + " answers, " + wrong + " wrong");
        if (wrong != 0) {
            System.exit(1);
        }
    }
}
