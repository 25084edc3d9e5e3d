import java.util.Arrays;

/** A house whose flights may be gone down alone, and the people who go about in it for a day. */
public final class DownOnly {
    public static final int NONE = -1;

    private static final int NOT_SO = -2;
    private static final int DAY = 1440;
    private static final int LAST_MINUTE = 1439;
    /** Later than any minute that can be reckoned with. */
    private static final int NEVER = 1000000;
    private static final int MOST_BYTES = 400;
    private static final int BYTES_FED = 20;
    private static final int MOST_ROOMS = 16;
    private static final int MOST_WAYS = 24;
    private static final int MOST_PEOPLE = 8;
    private static final int MOST_RULES = 6;
    private static final int MOST_ERRANDS = 10;
    private static final int MOST_TRIPS = 12;
    private static final int MOST_RIDERS = 20;
    private static final int MOST_CUSTOMERS = 10;
    private static final int MOST_SHOPS = 6;
    private static final int MOST_IMAGES = 4;
    private static final int MOST_DRAWN_DAYS = 20;
    private static final int MOST_WORTH = 99;
    private static final int MOST_DOWNS = 1000000;
    private static final int HIGHEST = 40;
    private static final int BY_HOIST = 24;

    private static final int CANNOT_STAND = 0;
    private static final int NOT_AS_TOLD = 1;
    private static final int TOO_DEEP = 2;
    private static final int TOO_MANY_PARTS = 3;
    private static final int TOO_MANY = 4;

    private final Tape tape = new Tape();
    private final House draft = new House();
    private final Rule[] rules = new Rule[MOST_RULES];
    private int rulesTold;
    private final State state = new State();
    private final State[] images = new State[MOST_IMAGES];
    private final Day otherDay = new Day();
    private final Reach reach = new Reach();
    private final Reach otherReach = new Reach();
    private final Walk walk = new Walk();
    private Planner planner;
    private final int[] lies = new int[MOST_ROOMS];
    private final int[] rows = new int[MOST_ROOMS];
    private final int[] longest = new int[MOST_ROOMS];
    private final int[] comesTo = new int[MOST_ROOMS];
    private final int[] rideAt = new int[MOST_RIDERS];
    private final int[] goDown = new int[1 << MOST_SHOPS];

    public DownOnly() {
    }

    public int feed(int a, int b, int c, int d, int e) {
        if (tape.length + BYTES_FED > MOST_BYTES) {
            return NONE;
        }
        tape.append(a);
        tape.append(b);
        tape.append(c);
        tape.append(d);
        tape.append(e);
        return tape.length;
    }

    public int end(int n) {
        if (n < 0 || n > tape.length) {
            return NONE;
        }
        tape.length = n;
        return n;
    }

    public int house() {
        HouseReader reader = new HouseReader(tape, draft);
        boolean told = reader.readAll();
        tape.length = 0;
        if (!told) {
            return NOT_SO - tape.fault;
        }
        state.moveInto(draft);
        return state.house.rooms;
    }

    public int rule() {
        if (rulesTold < 0 || rulesTold >= MOST_RULES) {
            return NONE;
        }
        // what a text with a fault has left behind is written over by the next one
        if (rules[rulesTold] == null) {
            rules[rulesTold] = new Rule();
        }
        RuleReader reader = new RuleReader(tape, rules[rulesTold]);
        boolean told = reader.readAll();
        tape.length = 0;
        if (!told) {
            return NOT_SO - tape.fault;
        }
        rulesTold++;
        return rulesTold - 1;
    }

    public int room(int room, int what) {
        House house = state.house;
        if (!house.isRoom(room)) {
            return NONE;
        }
        switch (what) {
            case 0:
                return house.height[room];
            case 1:
                return state.day.peopleIn(house, room);
            case 2:
                return house.top == room ? 1 : 0;
            default:
                return NONE;
        }
    }

    public int way(int way, int what) {
        House house = state.house;
        if (!house.isWay(way)) {
            return NOT_SO;
        }
        switch (what) {
            case 0:
                return house.from[way];
            case 1:
                return house.to[way];
            case 2:
                return house.minutes[way];
            case 3:
                return house.passage[way];
            case 4:
                return house.opens[way];
            case 5:
                return house.closes[way];
            default:
                return NOT_SO;
        }
    }

    public int person(int person, int what) {
        Day day = state.day;
        if (!state.house.isPerson(person)) {
            return NOT_SO;
        }
        switch (what) {
            case 0:
                return day.at[person];
            case 1:
                return state.house.home[person];
            case 2:
                return day.rode[person];
            case 3:
                return day.bound[person];
            case 4:
                return day.comes[person];
            default:
                return NOT_SO;
        }
    }

    public boolean go(int person, int way) {
        House house = state.house;
        Day day = state.day;
        if (!house.isPerson(person) || day.now > LAST_MINUTE || day.at[person] == NONE) {
            return false;
        }
        return way == BY_HOIST ? day.takeHoist(house, person) : day.takeWay(house, person, way);
    }

    public int tick(int rule, int n) {
        Rule by = ruleTold(rule);
        Day day = state.day;
        if (by == null || n < 1 || n > DAY || n > DAY - day.now) {
            return NONE;
        }
        day.pass(state.house, by, n);
        return day.now;
    }

    public int ahead(int rule, int what) {
        Rule by = ruleTold(rule);
        if (by == null || what < 0 || what > 2) {
            return NONE;
        }
        otherDay.copyFrom(state.day);
        otherDay.pass(state.house, by, DAY - otherDay.now);
        return otherDay.tally(state.house, what);
    }

    public int soonest(int from, int minute, int to, boolean hoist) {
        if (!isStart(from, minute) || !state.house.isRoom(to)) {
            return NONE;
        }
        reach.from(state.house, from, minute, hoist);
        return orNotToday(reach.leastAt(to));
    }

    public int still(int from, int minute, boolean hoist) {
        if (!isStart(from, minute)) {
            return NONE;
        }
        reach.from(state.house, from, minute, hoist);
        int bits = 0;
        for (int room = 0; room < state.house.rooms; room++) {
            if (reach.leastAt(room) <= LAST_MINUTE) {
                bits |= 1 << room;
            }
        }
        return bits;
    }

    public int downs(int from, int to, int what) {
        House house = state.house;
        if (!house.isRoom(from) || !house.isRoom(to) || what < 0 || what > 2) {
            return NONE;
        }
        house.reckonDowns(to, rows, longest);
        if (what == 2) {
            return house.firstOfLongest(from, longest);
        }
        return what == 0 ? rows[from] : longest[from];
    }

    public int errand(int room, int from, int till, int worth) {
        Lists lists = state.lists;
        if (lists.errands >= MOST_ERRANDS || !isStart(room, from) || !isMinute(till)) {
            return NONE;
        }
        if (till < from || worth < 0 || worth > MOST_WORTH) {
            return NONE;
        }
        return lists.addErrand(room, from, till, worth);
    }

    public int best(int from, int minute, boolean hoist, int what) {
        if (!isStart(from, minute) || what < 0 || what > 2) {
            return NONE;
        }
        if (planner == null) {
            planner = new Planner();
        }
        planner.plan(state, from, minute, hoist);
        if (what == 0) {
            return planner.worth;
        }
        return what == 1 ? planner.set : planner.minute;
    }

    public int meeting(int one, int minute, int other, int otherMinute, boolean hoist, int what) {
        if (!isStart(one, minute) || !isStart(other, otherMinute) || what < 0 || what > 2) {
            return NONE;
        }
        reach.from(state.house, one, minute, hoist);
        otherReach.from(state.house, other, otherMinute, hoist);
        int least = NEVER;
        int where = NOT_SO;
        int many = 0;
        for (int room = 0; room < state.house.rooms; room++) {
            int both = Math.max(reach.leastAt(room), otherReach.leastAt(room));
            if (both <= LAST_MINUTE) {
                many++;
            }
            if (both <= LAST_MINUTE && both < least) {
                least = both;
                where = room;
            }
        }
        if (what == 0) {
            return orNotToday(least);
        }
        return what == 1 ? where : many;
    }

    public int trip(int from, int minute, int to) {
        Lists lists = state.lists;
        if (from == NONE) {
            lists.trips = 0;
            return 0;
        }
        if (lists.trips >= MOST_TRIPS || !isStart(from, minute) || !state.house.isRoom(to)) {
            return NOT_SO;
        }
        reach.from(state.house, from, minute, false);
        int there = reach.leastAt(to);
        if (there > LAST_MINUTE) {
            return NOT_SO;
        }
        return lists.addTrip(from, minute, to, there);
    }

    public int trips(int trip, int k) {
        Lists lists = state.lists;
        if (trip < 0 || trip >= lists.trips || trip >= MOST_TRIPS || k < -1) {
            return NONE;
        }
        if (k == -1) {
            return lists.tripThere[trip];
        }
        walk.begin(state.house, lists, trip);
        for (int gone = 0; gone < DAY; gone++) {
            if (!walk.step(state.house)) {
                return NOT_SO;
            }
            if (gone == k) {
                return walk.way;
            }
        }
        return NOT_SO;
    }

    public int brought(int room, int minute, int to) {
        if (!isStart(room, minute) || !state.house.isRoom(to)) {
            return NONE;
        }
        Arrays.fill(lies, NEVER);
        lies[room] = minute;
        boolean changed = true;
        // the thing comes soonest to each room once, so a round more than rooms settles all
        for (int round = 0; round <= MOST_ROOMS && changed; round++) {
            changed = false;
            for (int trip = 0; trip < state.lists.trips; trip++) {
                changed |= takeAlong(trip);
            }
        }
        return orNotToday(lies[to]);
    }

    private boolean takeAlong(int trip) {
        boolean changed = false;
        boolean taken = false;
        walk.begin(state.house, state.lists, trip);
        for (int gone = 0; gone < DAY; gone++) {
            int start = walk.room;
            if (!state.house.isRoom(start) || !walk.step(state.house) || !state.house.isRoom(walk.room)) {
                return changed;
            }
            taken |= lies[start] <= walk.off;
            if (taken && walk.minute < lies[walk.room]) {
                lies[walk.room] = walk.minute;
                changed = true;
            }
        }
        return changed;
    }

    public int rider(int minute) {
        Lists lists = state.lists;
        if (minute == NONE) {
            lists.riders = 0;
            return 0;
        }
        if (!isMinute(minute) || lists.riders >= MOST_RIDERS) {
            return NOT_SO;
        }
        return lists.addRider(minute);
    }

    public int rides(int what) {
        Lists lists = state.lists;
        if (state.house.every <= 0 || what < 0 || what > MOST_RIDERS) {
            return NONE;
        }
        if (what < MOST_RIDERS && what >= lists.riders) {
            return NONE;
        }
        seatRiders();
        if (what < MOST_RIDERS) {
            return rideAt[what];
        }
        int most = NOT_SO;
        for (int k = 0; k < lists.riders && k < MOST_RIDERS; k++) {
            if (rideAt[k] != NOT_SO) {
                most = Math.max(most, rideAt[k] - lists.riderMinute[k]);
            }
        }
        return most;
    }

    private void seatRiders() {
        House house = state.house;
        Arrays.fill(rideAt, NONE);
        int leaves = NONE;
        int seated = 0;
        for (int k = 0; k < state.lists.riders; k++) {
            int next = state.lists.firstWaiting(rideAt);
            if (next == NONE) {
                return;
            }
            int off = house.hoistLeaves(Math.max(state.lists.riderMinute[next], leaves));
            if (off != NONE && off == leaves && seated >= house.seats) {
                off = house.hoistLeaves(leaves + 1);
            }
            rideAt[next] = off == NONE ? NOT_SO : off;
            if (off != NONE) {
                seated = off == leaves ? seated + 1 : 1;
                leaves = off;
            }
        }
    }

    public int customer(int from, int to) {
        Lists lists = state.lists;
        if (from == NONE) {
            lists.customers = 0;
            return 0;
        }
        if (from < 0 || from >= MOST_SHOPS || to < 0 || to >= MOST_SHOPS || from == to) {
            return NOT_SO;
        }
        return lists.customers >= MOST_CUSTOMERS ? NOT_SO : lists.addCustomer(from, to);
    }

    public int order(int n, int what) {
        if (n < 1 || n > MOST_SHOPS || what < 0 || what > MOST_SHOPS) {
            return NONE;
        }
        if (what < MOST_SHOPS && what >= n) {
            return NONE;
        }
        weighOrders(n);
        if (what == MOST_SHOPS) {
            return goDown[0];
        }
        int above = 0;
        int shop = NONE;
        for (int place = 0; place <= what; place++) {
            shop = nextShop(n, above);
            if (shop == NONE) {
                return NONE;
            }
            above |= 1 << shop;
        }
        return shop;
    }

    /** For each set of shops that stand above already: how many customers can go down among the rest. */
    private void weighOrders(int n) {
        int all = (1 << n) - 1;
        for (int above = Math.min(all, goDown.length - 1); above >= 0; above--) {
            goDown[above] = 0;
            for (int shop = 0; shop < n; shop++) {
                if ((above >> shop & 1) == 0) {
                    goDown[above] = Math.max(goDown[above], goDownWith(all, above, shop));
                }
            }
        }
    }

    private int goDownWith(int all, int above, int shop) {
        int then = above | 1 << shop;
        int rest = then >= 0 && then < goDown.length ? goDown[then] : 0;
        return rest + state.lists.customersFrom(shop, all & ~then);
    }

    private int nextShop(int n, int above) {
        int all = (1 << n) - 1;
        if (above < 0 || above >= goDown.length) {
            return NONE;
        }
        for (int shop = 0; shop < n; shop++) {
            if ((above >> shop & 1) == 0 && goDownWith(all, above, shop) == goDown[above]) {
                return shop;
            }
        }
        return NONE;
    }

    public int beds() {
        if (state.house.rooms == 0) {
            return NONE;
        }
        int bits = 0;
        for (int person = 0; person < state.house.people && person < MOST_PEOPLE; person++) {
            if (!comesHome(person)) {
                bits |= 1 << person;
            }
        }
        return bits;
    }

    private boolean comesHome(int person) {
        Day day = state.day;
        if (!state.house.isPerson(person)) {
            return true;
        }
        int home = state.house.home[person];
        boolean onWay = day.at[person] == NONE;
        if (day.now > LAST_MINUTE) {
            return day.at[person] == home;
        }
        int start = onWay ? day.bound[person] : day.at[person];
        int minute = onWay ? day.comes[person] : day.now;
        reach.from(state.house, start, minute, day.rode[person] == 0);
        return reach.leastAt(home) <= LAST_MINUTE;
    }

    public int upward(int what) {
        House house = state.house;
        if (house.rooms == 0 || what < 0 || what > 2) {
            return NONE;
        }
        if (what == 2) {
            return house.twos(NONE, comesTo);
        }
        int flight = NOT_SO;
        int most = NOT_SO;
        for (int way = 0; way < house.ways && way < MOST_WAYS; way++) {
            int twos = house.passage[way] == 0 ? house.twos(way, comesTo) : NOT_SO;
            if (twos > most) {
                most = twos;
                flight = way;
            }
        }
        return what == 0 ? flight : most;
    }

    public int seed(int x) {
        if (x < 0) {
            return NONE;
        }
        int was = state.lists.x;
        state.lists.x = x;
        return was;
    }

    public int drawn(int rule, int m, int what) {
        Rule by = ruleTold(rule);
        if (state.house.rooms == 0 || by == null || m < 1 || m > MOST_DRAWN_DAYS || what < 0 || what > 1) {
            return NONE;
        }
        int x = state.lists.x;
        int sum = 0;
        for (int k = 0; k < m; k++) {
            x = otherDay.beginDrawn(state.house, x);
            otherDay.pass(state.house, by, DAY);
            sum += otherDay.tally(state.house, what);
        }
        return sum;
    }

    public int count(int what) {
        switch (what) {
            case 0:
                return state.house.rooms;
            case 1:
                return state.house.ways;
            case 2:
                return state.house.people;
            case 3:
                return rulesTold;
            case 4:
                return state.day.now;
            case 5:
                return state.lists.errands;
            case 6:
                return state.lists.trips;
            case 7:
                return state.lists.riders;
            case 8:
                return state.lists.customers;
            case 9:
                return state.lists.x;
            case 10:
                return tape.length;
            case 11:
                return state.house.hoistMinutes;
            case 12:
                return state.house.seats;
            case 13:
                return state.house.every;
            default:
                return NONE;
        }
    }

    public int image(int k) {
        if (k < 0 || k >= MOST_IMAGES) {
            return NONE;
        }
        State made = images[k];
        if (made == null) {
            made = new State();
            images[k] = made;
        }
        made.copyFrom(state);
        return state.day.now;
    }

    public int back(int k) {
        if (k < 0 || k >= MOST_IMAGES || images[k] == null) {
            return NONE;
        }
        state.copyFrom(images[k]);
        return state.day.now;
    }

    private Rule ruleTold(int rule) {
        return rule < 0 || rule >= rulesTold || rule >= MOST_RULES ? null : rules[rule];
    }

    private boolean isStart(int room, int minute) {
        return state.house.isRoom(room) && isMinute(minute);
    }

    private static boolean isMinute(int minute) {
        return minute >= 0 && minute <= LAST_MINUTE;
    }

    private static int orNotToday(int minute) {
        return minute > LAST_MINUTE ? NOT_SO : minute;
    }

    private static void copyRow(int[] from, int[] to) {
        System.arraycopy(from, 0, to, 0, Math.min(from.length, to.length));
    }

    /** The bytes that were fed, and the one piece of them (word, number, sign or the end) that is looked at. */
    private static final class Tape {
        static final int END = 0;
        static final int WORD = 1;
        static final int NUMBER = 2;
        static final int SIGN = 3;
        private static final int MOST_DIGITS = 5;

        final int[] bytes = new int[MOST_BYTES];
        int length;
        int kind;
        int first;
        int behind;
        int digits;
        int value;
        int fault;

        void append(int number) {
            for (int shift = 24; shift >= 0 && length < bytes.length; shift -= 8) {
                bytes[length] = number >> shift & 255;
                length++;
            }
        }

        void begin() {
            fault = 0;
            behind = 0;
            advance();
        }

        void advance() {
            int at = behind;
            while (at < length && byteAt(at) == ' ') {
                at++;
            }
            first = at;
            if (at >= length) {
                kind = END;
            } else if (isLetter(byteAt(at))) {
                kind = WORD;
                while (isLetter(byteAt(at)) && at < length) {
                    at++;
                }
            } else if (isDigit(byteAt(at))) {
                kind = NUMBER;
                at = behindDigits(at);
            } else {
                kind = SIGN;
                boolean mayGoOn = byteAt(at) == '<' || byteAt(at) == '>';
                at += mayGoOn && byteAt(at + 1) == '=' ? 2 : 1;
            }
            behind = at;
        }

        private int behindDigits(int start) {
            int at = start;
            digits = 0;
            value = 0;
            // no helper is asked here: calls stay at most eight deep
            while (at >= 0 && at < length && at < bytes.length && bytes[at] >= '0' && bytes[at] <= '9') {
                digits++;
                // a longer number is refused by its digits, so its value need not go on
                if (digits <= MOST_DIGITS) {
                    value = value * 10 + bytes[at] - '0';
                }
                at++;
            }
            return at;
        }

        int byteAt(int at) {
            return at >= 0 && at < length && at < bytes.length ? bytes[at] : NONE;
        }

        private static boolean isLetter(int c) {
            return c >= 'a' && c <= 'z';
        }

        private static boolean isDigit(int c) {
            return c >= '0' && c <= '9';
        }

        boolean isWord(String word) {
            if (kind != WORD || behind - first != word.length()) {
                return false;
            }
            for (int k = 0; k < word.length(); k++) {
                int at = first + k;
                if (at < 0 || at >= bytes.length || bytes[at] != word.charAt(k)) {
                    return false;
                }
            }
            return true;
        }

        boolean isSign(char sign) {
            return kind == SIGN && behind - first == 1 && byteAt(first) == sign;
        }

        /** Keeps the fault; its false answer is handed on by all who read. */
        boolean refuse(int why) {
            fault = 1 + 8 * first + why;
            return false;
        }

        boolean isNumber(int least, int most) {
            if (kind != NUMBER) {
                return refuse(CANNOT_STAND);
            }
            boolean asTold = digits <= MOST_DIGITS && value >= least && value <= most;
            return asTold || refuse(NOT_AS_TOLD);
        }

        boolean passSign(char sign) {
            if (!isSign(sign)) {
                return refuse(CANNOT_STAND);
            }
            advance();
            return true;
        }

        /** The number here stays readable as value until the next number is reached. */
        int take() {
            int number = value;
            advance();
            return number;
        }
    }

    /** What the text of a house tells; nothing of it changes in the course of a day. */
    private static final class House {
        int rooms;
        int ways;
        int people;
        int top;
        int hoistMinutes;
        int seats;
        int every;
        final int[] height = new int[MOST_ROOMS];
        final int[] from = new int[MOST_WAYS];
        final int[] to = new int[MOST_WAYS];
        final int[] minutes = new int[MOST_WAYS];
        final int[] passage = new int[MOST_WAYS];
        final int[] opens = new int[MOST_WAYS];
        final int[] closes = new int[MOST_WAYS];
        final int[] home = new int[MOST_PEOPLE];

        void clear() {
            rooms = 0;
            ways = 0;
            people = 0;
            top = 0;
            hoistMinutes = 0;
            seats = 0;
            every = 0;
        }

        void copyFrom(House other) {
            rooms = other.rooms;
            ways = other.ways;
            people = other.people;
            top = other.top;
            hoistMinutes = other.hoistMinutes;
            seats = other.seats;
            every = other.every;
            copyRow(other.height, height);
            copyRow(other.from, from);
            copyRow(other.to, to);
            copyRow(other.minutes, minutes);
            copyRow(other.passage, passage);
            copyRow(other.opens, opens);
            copyRow(other.closes, closes);
            copyRow(other.home, home);
        }

        boolean isRoom(int room) {
            return room >= 0 && room < rooms && room < MOST_ROOMS;
        }

        boolean isWay(int way) {
            return way >= 0 && way < ways && way < MOST_WAYS;
        }

        boolean isPerson(int person) {
            return person >= 0 && person < people && person < MOST_PEOPLE;
        }

        /** Where a way leads for one who is in a room; NONE if it can't be gone from there. */
        int leadsTo(int way, int room) {
            if (!isWay(way)) {
                return NONE;
            }
            if (from[way] == room) {
                return to[way];
            }
            return passage[way] == 1 && to[way] == room ? from[way] : NONE;
        }

        /** The first minute, not ahead of this one, in which a way is open; NONE if it isn't any more. */
        int openFrom(int way, int minute) {
            if (!isWay(way)) {
                return NONE;
            }
            if (opens[way] == NONE) {
                return minute;
            }
            int off = Math.max(minute, opens[way]);
            return off > closes[way] ? NONE : off;
        }

        /** The first minute, not ahead of this one, in which the hoist leaves; NONE if it doesn't any more. */
        int hoistLeaves(int minute) {
            if (every <= 0 || minute < 0) {
                return NONE;
            }
            int off = (minute + every - 1) / every * every;
            return off > LAST_MINUTE ? NONE : off;
        }

        /** For each room, of the rows of flights to the end: how many, and the flights of the longest. */
        void reckonDowns(int end, int[] rows, int[] longest) {
            // a row ends lower than it starts, so lower rooms are reckoned first
            for (int level = 0; level <= HIGHEST; level++) {
                for (int room = 0; room < rooms && room < MOST_ROOMS; room++) {
                    if (height[room] == level) {
                        reckonDownsFrom(room, end, rows, longest);
                    }
                }
            }
        }

        private void reckonDownsFrom(int room, int end, int[] rows, int[] longest) {
            if (room < 0 || room >= rows.length || room >= longest.length) {
                return;
            }
            rows[room] = room == end ? 1 : 0;
            longest[room] = room == end ? 0 : NOT_SO;
            for (int way = 0; way < ways; way++) {
                boolean fits = isFlightFrom(way, room) && isRoom(to[way]) && to[way] < rows.length && to[way] < longest.length;
                if (fits && rows[to[way]] > 0) {
                    rows[room] = Math.min(MOST_DOWNS, rows[room] + rows[to[way]]);
                    longest[room] = Math.max(longest[room], longest[to[way]] + 1);
                }
            }
        }

        /** The least flight by which a longest row begins; asked behind reckonDowns, whose row it reads. */
        int firstOfLongest(int room, int[] longest) {
            if (room < 0 || room >= longest.length) {
                return NOT_SO;
            }
            for (int way = 0; way < ways; way++) {
                boolean fits = isFlightFrom(way, room) && isRoom(to[way]) && to[way] < longest.length;
                if (fits && longest[to[way]] >= 0 && longest[to[way]] + 1 == longest[room]) {
                    return way;
                }
            }
            return NOT_SO;
        }

        private boolean isFlightFrom(int way, int room) {
            return isWay(way) && passage[way] == 0 && from[way] == room;
        }

        /** How many pairs of rooms have a way, if one flight (or none) could be gone up too. */
        int twos(int upFlight, int[] comesTo) {
            for (int room = 0; room < rooms && room < comesTo.length; room++) {
                comesTo[room] = 1 << room;
            }
            boolean changed = true;
            for (int round = 0; round <= MOST_ROOMS && changed; round++) {
                changed = false;
                for (int way = 0; way < ways && way < MOST_WAYS; way++) {
                    changed |= widen(from[way], to[way], comesTo);
                    if (passage[way] == 1 || way == upFlight) {
                        changed |= widen(to[way], from[way], comesTo);
                    }
                }
            }
            int sum = 0;
            for (int room = 0; room < rooms && room < comesTo.length; room++) {
                sum += Integer.bitCount(comesTo[room]) - 1;
            }
            return sum;
        }

        private static boolean widen(int start, int end, int[] comesTo) {
            if (start < 0 || start >= comesTo.length || end < 0 || end >= comesTo.length) {
                return false;
            }
            int was = comesTo[start];
            comesTo[start] = was | comesTo[end];
            return comesTo[start] != was;
        }
    }

    /** Reads the text of a house into a draft, which counts only if no fault is met. */
    private static final class HouseReader {
        private static final int MOST_CLAUSES = 40;
        private static final int LONGEST_GO = 60;
        private static final int MOST_SEATS = 9;
        private static final int SELDOMEST = 120;

        private final Tape tape;
        private final House house;
        private int clauses;

        HouseReader(Tape tape, House house) {
            this.tape = tape;
            this.house = house;
        }

        boolean readAll() {
            house.clear();
            clauses = 0;
            tape.begin();
            for (int k = 0; k <= MOST_CLAUSES; k++) {
                if (!readClause()) {
                    return false;
                }
                if (tape.kind == Tape.END) {
                    return house.rooms > 0 || tape.refuse(CANNOT_STAND);
                }
                if (!tape.passSign(';')) {
                    return false;
                }
            }
            return tape.refuse(TOO_MANY);
        }

        private boolean readClause() {
            if (tape.isWord("room")) {
                return opens(house.rooms < MOST_ROOMS) && readRoom();
            }
            if (tape.isWord("flight")) {
                return opens(house.ways < MOST_WAYS) && readWay(false);
            }
            if (tape.isWord("passage")) {
                return opens(house.ways < MOST_WAYS) && readWay(true);
            }
            if (tape.isWord("door")) {
                return opens(true) && readDoor();
            }
            if (tape.isWord("hoist")) {
                return opens(house.every == 0) && readHoist();
            }
            if (tape.isWord("person")) {
                return opens(house.people < MOST_PEOPLE) && readPerson();
            }
            return tape.refuse(CANNOT_STAND);
        }

        private boolean opens(boolean hasPlace) {
            if (!hasPlace || clauses >= MOST_CLAUSES) {
                return tape.refuse(TOO_MANY);
            }
            clauses++;
            tape.advance();
            return true;
        }

        private boolean readRoom() {
            if (!tape.isNumber(0, HIGHEST) || house.rooms >= MOST_ROOMS) {
                return false;
            }
            house.height[house.rooms] = tape.take();
            house.rooms++;
            if (house.height[house.rooms - 1] > house.height[house.top]) {
                house.top = house.rooms - 1;
            }
            return true;
        }

        private boolean readWay(boolean passage) {
            int way = house.ways;
            if (!tape.isNumber(0, house.rooms - 1) || way >= MOST_WAYS) {
                return false;
            }
            int from = tape.take();
            if (!tape.isNumber(0, house.rooms - 1)) {
                return false;
            }
            if (!joins(from, tape.value, passage)) {
                return tape.refuse(NOT_AS_TOLD);
            }
            int to = tape.take();
            if (!tape.isNumber(1, LONGEST_GO)) {
                return false;
            }
            house.from[way] = from;
            house.to[way] = to;
            house.minutes[way] = tape.take();
            house.passage[way] = passage ? 1 : 0;
            house.opens[way] = NONE;
            house.closes[way] = NONE;
            house.ways++;
            return true;
        }

        private boolean joins(int from, int to, boolean passage) {
            if (!house.isRoom(from) || !house.isRoom(to)) {
                return false;
            }
            if (passage) {
                return from != to && house.height[from] == house.height[to];
            }
            return house.height[to] < house.height[from];
        }

        private boolean readDoor() {
            if (!tape.isNumber(0, house.ways - 1)) {
                return false;
            }
            int way = tape.take();
            if (!tape.isNumber(0, LAST_MINUTE)) {
                return false;
            }
            int opens = tape.take();
            if (!tape.isNumber(opens, LAST_MINUTE) || !house.isWay(way)) {
                return false;
            }
            house.opens[way] = opens;
            house.closes[way] = tape.take();
            return true;
        }

        private boolean readHoist() {
            if (!tape.isNumber(1, LONGEST_GO)) {
                return false;
            }
            house.hoistMinutes = tape.take();
            if (!tape.isNumber(1, MOST_SEATS)) {
                return false;
            }
            house.seats = tape.take();
            if (!tape.isNumber(1, SELDOMEST)) {
                return false;
            }
            house.every = tape.take();
            return true;
        }

        private boolean readPerson() {
            if (!tape.isNumber(0, house.rooms - 1) || house.people >= MOST_PEOPLE) {
                return false;
            }
            house.home[house.people] = tape.take();
            house.people++;
            return true;
        }
    }

    /** A rule's clauses; their tests stand one behind the other, operands ahead of what joins them. */
    private static final class Rule {
        static final int MOST_CLAUSES = 12;
        static final int TAKE = 0;
        static final int RIDE = 1;
        static final int WAIT = 2;

        static final int NOW = 0;
        static final int PERSON = 1;
        static final int ROOM = 2;
        static final int HEIGHT = 3;
        static final int HERE = 4;
        static final int RODE = 5;
        static final int HOME = 6;
        static final int TOP = 7;
        static final int PLUS = 10;
        static final int MINUS = 11;
        static final int TIMES = 12;
        static final int BY = 13;
        static final int LESS = 14;
        static final int LESS_OR_SAME = 15;
        static final int SAME = 16;
        static final int MORE_OR_SAME = 17;
        static final int MORE = 18;
        static final int AND = 19;
        static final int OR = 20;
        static final int NOT = 21;
        /** A number n stands as this and n more. */
        static final int NUMBER = 100;
        /** Two for each of the depths, four for a sum: far fewer than these can be open at once. */
        private static final int STACK = 64;

        int clauses;
        final int[] deed = new int[MOST_CLAUSES];
        final int[] way = new int[MOST_CLAUSES];
        final int[] start = new int[MOST_CLAUSES];
        final int[] behind = new int[MOST_CLAUSES];
        /** Each piece of a text gives at most one step, and no piece is shorter than a byte. */
        final int[] code = new int[MOST_BYTES];
        int length;
        private final long[] stack = new long[STACK];

        void clear() {
            clauses = 0;
            length = 0;
        }

        boolean put(int step) {
            if (length < code.length) {
                code[length] = step;
                length++;
            }
            return true;
        }

        boolean holds(int clause, House house, Day day, int person) {
            if (clause < 0 || clause >= clauses || start[clause] == behind[clause]) {
                return true;
            }
            int open = 0;
            for (int k = start[clause]; k < behind[clause] && k < code.length; k++) {
                int step = code[k];
                if (step == NOT) {
                    open = negate(open);
                } else if (step >= PLUS && step < NUMBER) {
                    open = join(step, open);
                } else if (open < STACK) {
                    stack[open] = step >= NUMBER ? step - NUMBER : day.word(step, house, person);
                    open++;
                }
            }
            return open > 0 && stack[0] != 0;
        }

        private int negate(int open) {
            if (open > 0 && open <= STACK) {
                stack[open - 1] = 1 - stack[open - 1];
            }
            return open;
        }

        private int join(int step, int open) {
            if (open < 2 || open > STACK) {
                return open;
            }
            stack[open - 2] = joined(step, stack[open - 2], stack[open - 1]);
            return open - 1;
        }

        private static long joined(int step, long a, long b) {
            switch (step) {
                case PLUS:
                    return a + b;
                case MINUS:
                    return a - b;
                case TIMES:
                    return a * b;
                case BY:
                    return b == 0 ? 0 : a / b;
                case LESS:
                    return a < b ? 1 : 0;
                case LESS_OR_SAME:
                    return a <= b ? 1 : 0;
                case SAME:
                    return a == b ? 1 : 0;
                case MORE_OR_SAME:
                    return a >= b ? 1 : 0;
                case MORE:
                    return a > b ? 1 : 0;
                case AND:
                    return a & b;
                default:
                    return a | b;
            }
        }
    }

    /** Reads the text of a rule; what it has written counts only if no fault is met. */
    private static final class RuleReader {
        private static final int DEEPEST = 10;
        private static final int MOST_PARTS = 60;
        private static final int MOST_NUMBER = 99999;

        private final Tape tape;
        private final Rule rule;
        private int parts;
        private int compared;

        RuleReader(Tape tape, Rule rule) {
            this.tape = tape;
            this.rule = rule;
        }

        boolean readAll() {
            rule.clear();
            tape.begin();
            for (int clause = 0; clause <= Rule.MOST_CLAUSES; clause++) {
                if (!readDeed() || clause >= Rule.MOST_CLAUSES) {
                    return false;
                }
                rule.start[clause] = rule.length;
                if (tape.isWord("if")) {
                    tape.advance();
                    if (!readTest(0)) {
                        return false;
                    }
                }
                rule.behind[clause] = rule.length;
                if (tape.kind == Tape.END) {
                    return true;
                }
                if (!tape.passSign(';')) {
                    return false;
                }
            }
            return tape.refuse(TOO_MANY);
        }

        private boolean readDeed() {
            int deed = tape.isWord("take") ? Rule.TAKE : tape.isWord("ride") ? Rule.RIDE : Rule.WAIT;
            if (deed == Rule.WAIT && !tape.isWord("wait")) {
                return tape.refuse(CANNOT_STAND);
            }
            int clause = rule.clauses;
            if (clause >= Rule.MOST_CLAUSES) {
                return tape.refuse(TOO_MANY);
            }
            tape.advance();
            rule.deed[clause] = deed;
            if (deed == Rule.TAKE) {
                if (!tape.isNumber(0, MOST_WAYS - 1)) {
                    return false;
                }
                rule.way[clause] = tape.take();
            }
            rule.clauses++;
            return true;
        }

        /** An or waits until the part behind it is whole, an and only for its fact. */
        private boolean readTest(int depth) {
            boolean orWaits = false;
            boolean andWaits = false;
            for (int k = 0; k < MOST_BYTES; k++) {
                if (!readFact(depth)) {
                    return false;
                }
                if (andWaits) {
                    rule.put(Rule.AND);
                }
                andWaits = tape.isWord("and");
                if (!andWaits) {
                    if (orWaits) {
                        rule.put(Rule.OR);
                    }
                    orWaits = tape.isWord("or");
                }
                if (!andWaits && !orWaits) {
                    return true;
                }
                tape.advance();
            }
            return tape.refuse(CANNOT_STAND);
        }

        private boolean readFact(int depth) {
            boolean not = tape.isWord("not");
            if (!not && !tape.isSign('[')) {
                return readSum() && readComparison() && readSum() && rule.put(compared);
            }
            if (depth >= DEEPEST) {
                return tape.refuse(TOO_DEEP);
            }
            tape.advance();
            if (not) {
                return readFact(depth + 1) && rule.put(Rule.NOT);
            }
            return readTest(depth + 1) && tape.passSign(']');
        }

        /** Keeps the sign until the sum behind it is whole; a sum holds no other fact that could take its place. */
        private boolean readComparison() {
            compared = comparison();
            if (compared == NONE) {
                return tape.refuse(CANNOT_STAND);
            }
            if (!countPart()) {
                return false;
            }
            tape.advance();
            return true;
        }

        private int comparison() {
            if (tape.kind != Tape.SIGN) {
                return NONE;
            }
            boolean orSame = tape.behind - tape.first == 2;
            switch (tape.byteAt(tape.first)) {
                case '<':
                    return orSame ? Rule.LESS_OR_SAME : Rule.LESS;
                case '>':
                    return orSame ? Rule.MORE_OR_SAME : Rule.MORE;
                case '=':
                    return Rule.SAME;
                default:
                    return NONE;
            }
        }

        /** A sum's sign waits until the term behind it is whole, a term's only for its value. */
        private boolean readSum() {
            int sumSign = NONE;
            int termSign = NONE;
            for (int k = 0; k < MOST_BYTES; k++) {
                if (!readValue()) {
                    return false;
                }
                if (termSign != NONE) {
                    rule.put(termSign);
                }
                int sign = reckoning();
                termSign = sign == Rule.TIMES || sign == Rule.BY ? sign : NONE;
                if (termSign == NONE) {
                    if (sumSign != NONE) {
                        rule.put(sumSign);
                    }
                    sumSign = sign;
                }
                if (sign == NONE) {
                    return true;
                }
                tape.advance();
            }
            return tape.refuse(CANNOT_STAND);
        }

        private int reckoning() {
            if (tape.kind != Tape.SIGN) {
                return NONE;
            }
            switch (tape.byteAt(tape.first)) {
                case '+':
                    return Rule.PLUS;
                case '-':
                    return Rule.MINUS;
                case '*':
                    return Rule.TIMES;
                case '/':
                    return Rule.BY;
                default:
                    return NONE;
            }
        }

        private boolean readValue() {
            int step = valueWord();
            if (step == NONE) {
                if (!tape.isNumber(0, MOST_NUMBER)) {
                    return false;
                }
                step = Rule.NUMBER + tape.value;
            }
            if (!countPart()) {
                return false;
            }
            tape.advance();
            return rule.put(step);
        }

        private int valueWord() {
            if (tape.isWord("now")) {
                return Rule.NOW;
            }
            if (tape.isWord("person")) {
                return Rule.PERSON;
            }
            if (tape.isWord("room")) {
                return Rule.ROOM;
            }
            if (tape.isWord("height")) {
                return Rule.HEIGHT;
            }
            if (tape.isWord("here")) {
                return Rule.HERE;
            }
            if (tape.isWord("rode")) {
                return Rule.RODE;
            }
            if (tape.isWord("home")) {
                return Rule.HOME;
            }
            return tape.isWord("top") ? Rule.TOP : NONE;
        }

        private boolean countPart() {
            parts++;
            return parts <= MOST_PARTS || tape.refuse(TOO_MANY_PARTS);
        }
    }

    /** Where the people are in a minute of a day. */
    private static final class Day {
        int now;
        /** How many have ridden in this very minute, whether by hand or by a rule. */
        int seated;
        final int[] at = new int[MOST_PEOPLE];
        final int[] rode = new int[MOST_PEOPLE];
        final int[] bound = new int[MOST_PEOPLE];
        final int[] comes = new int[MOST_PEOPLE];

        void copyFrom(Day other) {
            now = other.now;
            seated = other.seated;
            copyRow(other.at, at);
            copyRow(other.rode, rode);
            copyRow(other.bound, bound);
            copyRow(other.comes, comes);
        }

        void begin(House house) {
            now = 0;
            seated = 0;
            copyRow(house.home, at);
            Arrays.fill(rode, 0);
            Arrays.fill(bound, NONE);
            Arrays.fill(comes, NONE);
        }

        /** Answers what the number that is drawn from has become. */
        int beginDrawn(House house, int x) {
            begin(house);
            long drawn = x;
            for (int person = 0; person < house.people && person < MOST_PEOPLE; person++) {
                drawn = (drawn * 1103515245L + 12345L) % 2147483648L;
                at[person] = house.rooms > 0 ? (int) (drawn / 65536L) % house.rooms : NONE;
            }
            return (int) drawn;
        }

        int peopleIn(House house, int room) {
            int bits = 0;
            for (int person = 0; person < house.people && person < MOST_PEOPLE; person++) {
                if (at[person] == room) {
                    bits |= 1 << person;
                }
            }
            return bits;
        }

        /** What 0: at home, 1: on the way, 2: how many have ridden. */
        int tally(House house, int what) {
            int sum = 0;
            for (int person = 0; person < house.people && person < MOST_PEOPLE; person++) {
                boolean counts = what == 0 ? at[person] == house.home[person]
                        : what == 1 ? at[person] == NONE : rode[person] == 1;
                sum += counts ? 1 : 0;
            }
            return sum;
        }

        private boolean canTake(House house, int person, int way) {
            if (!house.isPerson(person) || !house.isWay(way)) {
                return false;
            }
            return house.leadsTo(way, at[person]) != NONE && house.openFrom(way, now) == now;
        }

        private boolean canRide(House house, int person) {
            if (!house.isPerson(person) || rode[person] == 1) {
                return false;
            }
            return seated < house.seats && house.hoistLeaves(now) == now;
        }

        boolean takeWay(House house, int person, int way) {
            if (!canTake(house, person, way)) {
                return false;
            }
            leave(person, house.leadsTo(way, at[person]), now + house.minutes[way]);
            return true;
        }

        boolean takeHoist(House house, int person) {
            if (!canRide(house, person)) {
                return false;
            }
            seated++;
            rode[person] = 1;
            leave(person, house.top, now + house.hoistMinutes);
            return true;
        }

        private void leave(int person, int end, int minute) {
            at[person] = NONE;
            bound[person] = end;
            comes[person] = minute;
        }

        void pass(House house, Rule rule, int minutes) {
            for (int k = 0; k < minutes; k++) {
                for (int person = 0; person < house.people && person < MOST_PEOPLE; person++) {
                    if (at[person] != NONE) {
                        act(house, rule, person);
                    }
                }
                now++;
                seated = 0;
                // who would come at the day's end stays on the way
                if (now < DAY) {
                    arrive(house);
                }
            }
        }

        private void act(House house, Rule rule, int person) {
            for (int clause = 0; clause < rule.clauses && clause < Rule.MOST_CLAUSES; clause++) {
                int deed = rule.deed[clause];
                int way = rule.way[clause];
                boolean can = deed == Rule.TAKE ? canTake(house, person, way) : deed == Rule.WAIT || canRide(house, person);
                // a test costs more than to see whether the deed can be done, so it is asked behind that
                if (can && rule.holds(clause, house, this, person)) {
                    if (deed == Rule.TAKE) {
                        takeWay(house, person, way);
                    } else if (deed == Rule.RIDE) {
                        takeHoist(house, person);
                    }
                    return;
                }
            }
        }

        private void arrive(House house) {
            for (int person = 0; person < house.people && person < MOST_PEOPLE; person++) {
                if (at[person] == NONE && comes[person] <= now) {
                    at[person] = bound[person];
                    bound[person] = NONE;
                    comes[person] = NONE;
                }
            }
        }

        long word(int word, House house, int person) {
            if (!house.isPerson(person) || !house.isRoom(at[person])) {
                return 0;
            }
            int room = at[person];
            switch (word) {
                case Rule.NOW:
                    return now;
                case Rule.PERSON:
                    return person;
                case Rule.ROOM:
                    return room;
                case Rule.HEIGHT:
                    return house.height[room];
                case Rule.HERE:
                    return Integer.bitCount(peopleIn(house, room));
                case Rule.RODE:
                    return rode[person];
                case Rule.HOME:
                    return house.home[person] == room ? 1 : 0;
                default:
                    return house.top == room ? 1 : 0;
            }
        }
    }

    /** What is told by calls: errands, trips, riders, customers, and the number that is drawn from. */
    private static final class Lists {
        int x;
        int errands;
        int trips;
        int riders;
        int customers;
        final int[] errandRoom = new int[MOST_ERRANDS];
        final int[] errandFrom = new int[MOST_ERRANDS];
        final int[] errandTill = new int[MOST_ERRANDS];
        final int[] errandWorth = new int[MOST_ERRANDS];
        final int[] tripFrom = new int[MOST_TRIPS];
        final int[] tripMinute = new int[MOST_TRIPS];
        final int[] tripTo = new int[MOST_TRIPS];
        final int[] tripThere = new int[MOST_TRIPS];
        final int[] riderMinute = new int[MOST_RIDERS];
        final int[] customerFrom = new int[MOST_CUSTOMERS];
        final int[] customerTo = new int[MOST_CUSTOMERS];

        void copyFrom(Lists other) {
            x = other.x;
            errands = other.errands;
            trips = other.trips;
            riders = other.riders;
            customers = other.customers;
            copyRow(other.errandRoom, errandRoom);
            copyRow(other.errandFrom, errandFrom);
            copyRow(other.errandTill, errandTill);
            copyRow(other.errandWorth, errandWorth);
            copyRow(other.tripFrom, tripFrom);
            copyRow(other.tripMinute, tripMinute);
            copyRow(other.tripTo, tripTo);
            copyRow(other.tripThere, tripThere);
            copyRow(other.riderMinute, riderMinute);
            copyRow(other.customerFrom, customerFrom);
            copyRow(other.customerTo, customerTo);
        }

        int addErrand(int room, int from, int till, int worth) {
            if (errands >= MOST_ERRANDS) {
                return NONE;
            }
            errandRoom[errands] = room;
            errandFrom[errands] = from;
            errandTill[errands] = till;
            errandWorth[errands] = worth;
            errands++;
            return errands - 1;
        }

        int addTrip(int from, int minute, int to, int there) {
            if (trips >= MOST_TRIPS) {
                return NOT_SO;
            }
            tripFrom[trips] = from;
            tripMinute[trips] = minute;
            tripTo[trips] = to;
            tripThere[trips] = there;
            trips++;
            return trips;
        }

        int addRider(int minute) {
            if (riders >= MOST_RIDERS) {
                return NOT_SO;
            }
            riderMinute[riders] = minute;
            riders++;
            return riders;
        }

        int addCustomer(int from, int to) {
            if (customers >= MOST_CUSTOMERS) {
                return NOT_SO;
            }
            customerFrom[customers] = from;
            customerTo[customers] = to;
            customers++;
            return customers;
        }

        /** The first rider, by minute and number, for whom no ride is noted yet. */
        int firstWaiting(int[] rideAt) {
            int first = NONE;
            for (int k = 0; k < riders && k < MOST_RIDERS && k < rideAt.length; k++) {
                if (rideAt[k] == NONE && (first == NONE || riderMinute[k] < riderMinute[first])) {
                    first = k;
                }
            }
            return first;
        }

        int customersFrom(int shop, int below) {
            int sum = 0;
            for (int k = 0; k < customers && k < MOST_CUSTOMERS; k++) {
                if (customerFrom[k] == shop && (below >> customerTo[k] & 1) == 1) {
                    sum++;
                }
            }
            return sum;
        }
    }

    /** All that an image keeps. */
    private static final class State {
        final House house = new House();
        final Day day = new Day();
        final Lists lists = new Lists();

        void copyFrom(State other) {
            house.copyFrom(other.house);
            day.copyFrom(other.day);
            lists.copyFrom(other.lists);
        }

        void moveInto(House told) {
            house.copyFrom(told);
            day.begin(house);
            lists.errands = 0;
            lists.trips = 0;
        }
    }

    /** How soon each room can be come to, by those who can still ride and by those who can't. */
    private static final class Reach {
        static final int CAN_RIDE = 0;
        static final int NO_RIDE = 1;

        private final int[] least = new int[2 * MOST_ROOMS];

        void clear() {
            Arrays.fill(least, NEVER);
        }

        void from(House house, int room, int minute, boolean hoist) {
            clear();
            put(room, hoist ? CAN_RIDE : NO_RIDE, minute);
            spread(house);
        }

        boolean put(int room, int riding, int minute) {
            int place = riding * MOST_ROOMS + room;
            if (minute > LAST_MINUTE || place < 0 || place >= least.length || minute >= least[place]) {
                return false;
            }
            least[place] = minute;
            return true;
        }

        int get(int room, int riding) {
            int place = riding * MOST_ROOMS + room;
            return place >= 0 && place < least.length ? least[place] : NEVER;
        }

        int leastAt(int room) {
            return Math.min(get(room, CAN_RIDE), get(room, NO_RIDE));
        }

        void spread(House house) {
            boolean changed = true;
            // who waits loses nothing, so a soonest way comes to no room twice in one of the two ways of riding
            for (int round = 0; round <= least.length && changed; round++) {
                changed = goUp(house);
                for (int way = 0; way < house.ways && way < MOST_WAYS; way++) {
                    for (int riding = CAN_RIDE; riding <= NO_RIDE; riding++) {
                        changed |= goAlong(house, way, house.from[way], riding);
                        changed |= goAlong(house, way, house.to[way], riding);
                    }
                }
            }
        }

        private boolean goAlong(House house, int way, int start, int riding) {
            int minute = get(start, riding);
            if (minute > LAST_MINUTE) {
                return false;
            }
            int end = house.leadsTo(way, start);
            int off = end == NONE ? NONE : house.openFrom(way, minute);
            return off != NONE && put(end, riding, off + house.minutes[way]);
        }

        private boolean goUp(House house) {
            boolean changed = false;
            for (int room = 0; room < house.rooms; room++) {
                int off = house.hoistLeaves(get(room, CAN_RIDE));
                if (off != NONE) {
                    changed |= put(house.top, NO_RIDE, off + house.hoistMinutes);
                }
            }
            return changed;
        }
    }

    /** One who goes on a trip, way by way; it is gone anew each time, for a trip can have a thousand ways. */
    private static final class Walk {
        /** The last minute in each room from which the trip's end is still come to in time; NONE: none. */
        private final int[] latest = new int[MOST_ROOMS];
        private int goal;
        int room;
        int minute;
        int way;
        int off;

        void begin(House house, Lists lists, int trip) {
            Arrays.fill(latest, NONE);
            if (trip < 0 || trip >= lists.trips || trip >= MOST_TRIPS) {
                goal = room;
                return;
            }
            room = lists.tripFrom[trip];
            minute = lists.tripMinute[trip];
            goal = lists.tripTo[trip];
            put(goal, lists.tripThere[trip]);
            boolean changed = true;
            for (int round = 0; round <= MOST_ROOMS && changed; round++) {
                changed = false;
                for (int k = 0; k < house.ways && k < MOST_WAYS; k++) {
                    changed |= goBack(house, k, house.from[k]);
                    changed |= goBack(house, k, house.to[k]);
                }
            }
        }

        private boolean put(int place, int last) {
            if (place < 0 || place >= latest.length || last <= latest[place]) {
                return false;
            }
            latest[place] = last;
            return true;
        }

        private int latestAt(int place) {
            return place >= 0 && place < latest.length ? latest[place] : NONE;
        }

        private boolean goBack(House house, int by, int start) {
            int end = house.leadsTo(by, start);
            if (end == NONE || latestAt(end) == NONE) {
                return false;
            }
            int last = latestAt(end) - house.minutes[by];
            if (house.opens[by] != NONE) {
                last = last < house.opens[by] ? NONE : Math.min(last, house.closes[by]);
            }
            return put(start, last);
        }

        /** Goes the next way; false if the trip is over. */
        boolean step(House house) {
            if (room == goal) {
                return false;
            }
            for (int k = 0; k < house.ways && k < MOST_WAYS; k++) {
                int end = house.leadsTo(k, room);
                int leaves = house.openFrom(k, minute);
                if (end != NONE && leaves != NONE && leaves + house.minutes[k] <= latestAt(end)) {
                    way = k;
                    off = leaves;
                    room = end;
                    minute = leaves + house.minutes[k];
                    return true;
                }
            }
            return false;
        }
    }

    /** Finds the errands of the most worth. */
    private static final class Planner {
        private static final int CELLS = 2 * MOST_ERRANDS;

        private final Reach reach = new Reach();
        /** For each set, each errand done last, and each way of riding: the soonest that it is done. */
        private final int[] done = new int[(1 << MOST_ERRANDS) * CELLS];
        int worth;
        int set;
        int minute;

        void plan(State state, int room, int start, boolean hoist) {
            Lists lists = state.lists;
            int sets = 1 << Math.min(lists.errands, MOST_ERRANDS);
            Arrays.fill(done, 0, Math.min(done.length, sets * CELLS), NEVER);
            worth = NONE;
            for (int tried = 0; tried < sets; tried++) {
                reach.clear();
                int soonest = start;
                if (tried == 0) {
                    reach.put(room, hoist ? Reach.CAN_RIDE : Reach.NO_RIDE, start);
                } else {
                    soonest = layOut(lists, tried);
                }
                if (soonest <= LAST_MINUTE) {
                    weigh(lists, tried, soonest);
                    reach.spread(state.house);
                    goOn(lists, tried);
                }
            }
        }

        private int layOut(Lists lists, int tried) {
            int soonest = NEVER;
            for (int cell = 0; cell < CELLS; cell++) {
                int place = tried * CELLS + cell;
                int last = cell / 2;
                if (place >= 0 && place < done.length && done[place] <= LAST_MINUTE) {
                    reach.put(lists.errandRoom[last], cell % 2, done[place]);
                    soonest = Math.min(soonest, done[place]);
                }
            }
            return soonest;
        }

        /** Sets are tried by their numbers, so one that is no better than the best stays behind it. */
        private void weigh(Lists lists, int tried, int soonest) {
            int sum = 0;
            for (int k = 0; k < lists.errands && k < MOST_ERRANDS; k++) {
                sum += (tried >> k & 1) * lists.errandWorth[k];
            }
            if (sum > worth || sum == worth && soonest < minute) {
                worth = sum;
                set = tried;
                minute = soonest;
            }
        }

        private void goOn(Lists lists, int tried) {
            for (int cell = 0; cell < CELLS; cell++) {
                int next = cell / 2;
                if (next < lists.errands && (tried >> next & 1) == 0) {
                    int then = Math.max(reach.get(lists.errandRoom[next], cell % 2), lists.errandFrom[next]);
                    int place = (tried | 1 << next) * CELLS + cell;
                    if (then <= lists.errandTill[next] && place >= 0 && place < done.length) {
                        done[place] = Math.min(done[place], then);
                    }
                }
            }
        }
    }
}
