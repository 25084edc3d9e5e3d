import java.util.ArrayDeque;
import java.util.ArrayList;
import java.util.BitSet;
import java.util.Collections;
import java.util.List;
import java.util.function.ToLongFunction;
import java.util.regex.Matcher;
import java.util.regex.Pattern;

/**
 * The document once more, written for plainness alone: everything that can be found by trying all
 * minutes, all orders or all rows is found so. The class is held against it on random runs of calls.
 */
final class Model {
    static final int NONE = -1;

    // ---- texts -------------------------------------------------------------------------------

    static final class Fault extends RuntimeException {
        final int code;

        Fault(int place, int kind) {
            super(null, null, false, false);
            code = 1 + 8 * place + kind;
        }
    }

    record Token(char kind, String text, int place) {
        boolean is(String word) {
            return text.equals(word);
        }
    }

    private static final Pattern TOKEN = Pattern.compile(" *(?:([a-z]+)|([0-9]+)|(<=|>=|[^ ]))", Pattern.DOTALL);

    static List<Token> tokens(String text) {
        List<Token> list = new ArrayList<>();
        Matcher m = TOKEN.matcher(text);
        int at = 0;
        while (m.find(at) && m.start() == at) {
            if (m.group(1) != null) {
                list.add(new Token('w', m.group(1), m.start(1)));
            } else if (m.group(2) != null) {
                list.add(new Token('n', m.group(2), m.start(2)));
            } else {
                list.add(new Token('s', m.group(3), m.start(3)));
            }
            at = m.end();
        }
        list.add(new Token('e', "", text.length()));
        return list;
    }

    static class Reader {
        final List<Token> tokens;
        int at;

        Reader(String text) {
            tokens = tokens(text);
        }

        Token peek() {
            return tokens.get(at);
        }

        Token next() {
            return tokens.get(at++);
        }

        Fault here(int kind) {
            return new Fault(peek().place, kind);
        }

        int number(int least, int most) {
            Token t = peek();
            if (t.kind != 'n') {
                throw here(0);
            }
            if (t.text.length() > 5) {
                throw here(1);
            }
            int v = Integer.parseInt(t.text);
            if (v < least || v > most) {
                throw here(1);
            }
            at++;
            return v;
        }

        boolean more() {
            if (peek().kind == 'e') {
                return false;
            }
            if (!peek().is(";")) {
                throw here(0);
            }
            at++;
            return true;
        }
    }

    static final class Way {
        int from;
        int to;
        int minutes;
        boolean passage;
        int opens = NONE;
        int closes = NONE;

        boolean open(int minute) {
            return opens == NONE || minute >= opens && minute <= closes;
        }

        int other(int room) {
            return room == from ? to : passage && room == to ? from : NONE;
        }
    }

    static final class Plan {
        final List<Integer> heights = new ArrayList<>();
        final List<Way> ways = new ArrayList<>();
        final List<Integer> homes = new ArrayList<>();
        int hoistMinutes;
        int seats;
        int every;

        int rooms() {
            return heights.size();
        }

        int top() {
            return heights.isEmpty() ? 0 : heights.indexOf(Collections.max(heights));
        }
    }

    static Plan readHouse(String text) {
        Reader r = new Reader(text);
        Plan plan = new Plan();
        int clauses = 0;
        do {
            Token t = r.peek();
            boolean known = t.kind == 'w' && List.of("room", "flight", "passage", "door", "hoist", "person").contains(t.text);
            if (!known) {
                throw r.here(0);
            }
            boolean isWay = t.is("flight") || t.is("passage");
            if (++clauses > 40 || t.is("room") && plan.rooms() == 16 || isWay && plan.ways.size() == 24
                    || t.is("hoist") && plan.every > 0 || t.is("person") && plan.homes.size() == 8) {
                throw r.here(4);
            }
            r.next();
            readClause(r, plan, t.text);
        } while (r.more());
        if (plan.rooms() == 0) {
            throw r.here(0);
        }
        return plan;
    }

    private static void readClause(Reader r, Plan plan, String word) {
        switch (word) {
            case "room" -> plan.heights.add(r.number(0, 40));
            case "person" -> plan.homes.add(r.number(0, plan.rooms() - 1));
            case "hoist" -> {
                plan.hoistMinutes = r.number(1, 60);
                plan.seats = r.number(1, 9);
                plan.every = r.number(1, 120);
            }
            case "door" -> {
                Way w = plan.ways.isEmpty() ? null : plan.ways.get(0);
                int k = r.number(0, plan.ways.size() - 1);
                w = plan.ways.get(k);
                int opens = r.number(0, 1439);
                w.closes = r.number(opens, 1439);
                w.opens = opens;
            }
            default -> {
                Way w = new Way();
                w.passage = word.equals("passage");
                w.from = r.number(0, plan.rooms() - 1);
                Token second = r.peek();
                w.to = r.number(0, plan.rooms() - 1);
                int a = plan.heights.get(w.from);
                int b = plan.heights.get(w.to);
                boolean fits = w.passage ? a == b && w.from != w.to : b < a;
                if (!fits) {
                    throw new Fault(second.place, 1);
                }
                w.minutes = r.number(1, 60);
                plan.ways.add(w);
            }
        }
    }

    /** Who asks, in which state of things. */
    record Asker(Plan plan, People people, int person) {
    }

    record Clause(String deed, int way, ToLongFunction<Asker> test) {
    }

    static List<Clause> readRule(String text) {
        return new RuleParser(text).all();
    }

    private static final class RuleParser extends Reader {
        int parts;

        RuleParser(String text) {
            super(text);
        }

        List<Clause> all() {
            List<Clause> clauses = new ArrayList<>();
            do {
                Token t = peek();
                if (!t.is("take") && !t.is("ride") && !t.is("wait")) {
                    throw here(0);
                }
                if (clauses.size() == 12) {
                    throw here(4);
                }
                next();
                int way = t.is("take") ? number(0, 23) : NONE;
                ToLongFunction<Asker> test = a -> 1;
                if (peek().is("if")) {
                    next();
                    test = test(0);
                }
                clauses.add(new Clause(t.text, way, test));
            } while (more());
            return clauses;
        }

        ToLongFunction<Asker> test(int depth) {
            ToLongFunction<Asker> left = part(depth);
            while (peek().is("or")) {
                next();
                ToLongFunction<Asker> a = left;
                ToLongFunction<Asker> b = part(depth);
                left = x -> a.applyAsLong(x) == 1 || b.applyAsLong(x) == 1 ? 1 : 0;
            }
            return left;
        }

        ToLongFunction<Asker> part(int depth) {
            ToLongFunction<Asker> left = fact(depth);
            while (peek().is("and")) {
                next();
                ToLongFunction<Asker> a = left;
                ToLongFunction<Asker> b = fact(depth);
                left = x -> a.applyAsLong(x) == 1 && b.applyAsLong(x) == 1 ? 1 : 0;
            }
            return left;
        }

        ToLongFunction<Asker> fact(int depth) {
            if (peek().is("not") || peek().is("[")) {
                if (depth == 10) {
                    throw here(2);
                }
                if (next().is("not")) {
                    ToLongFunction<Asker> f = fact(depth + 1);
                    return x -> f.applyAsLong(x) == 1 ? 0 : 1;
                }
                ToLongFunction<Asker> f = test(depth + 1);
                if (!peek().is("]")) {
                    throw here(0);
                }
                next();
                return f;
            }
            ToLongFunction<Asker> a = sum();
            String sign = peek().text;
            if (!List.of("<", "<=", "=", ">=", ">").contains(sign)) {
                throw here(0);
            }
            part();
            next();
            ToLongFunction<Asker> b = sum();
            return x -> compares(a.applyAsLong(x), sign, b.applyAsLong(x)) ? 1 : 0;
        }

        static boolean compares(long a, String sign, long b) {
            return switch (sign) {
                case "<" -> a < b;
                case "<=" -> a <= b;
                case "=" -> a == b;
                case ">=" -> a >= b;
                default -> a > b;
            };
        }

        void part() {
            if (++parts > 60) {
                throw here(3);
            }
        }

        ToLongFunction<Asker> sum() {
            ToLongFunction<Asker> left = term();
            while (peek().is("+") || peek().is("-")) {
                boolean plus = next().is("+");
                ToLongFunction<Asker> a = left;
                ToLongFunction<Asker> b = term();
                left = plus ? x -> a.applyAsLong(x) + b.applyAsLong(x) : x -> a.applyAsLong(x) - b.applyAsLong(x);
            }
            return left;
        }

        ToLongFunction<Asker> term() {
            ToLongFunction<Asker> left = value();
            while (peek().is("*") || peek().is("/")) {
                boolean times = next().is("*");
                ToLongFunction<Asker> a = left;
                ToLongFunction<Asker> b = value();
                left = times ? x -> a.applyAsLong(x) * b.applyAsLong(x)
                        : x -> b.applyAsLong(x) == 0 ? 0 : a.applyAsLong(x) / b.applyAsLong(x);
            }
            return left;
        }

        ToLongFunction<Asker> value() {
            Token t = peek();
            if (t.kind == 'n') {
                if (t.text.length() > 5) {
                    throw here(1);
                }
                part();
                next();
                long v = Long.parseLong(t.text);
                return x -> v;
            }
            ToLongFunction<Asker> f = switch (t.text) {
                case "now" -> x -> x.people.now;
                case "person" -> x -> x.person;
                case "room" -> x -> x.people.room[x.person];
                case "height" -> x -> x.plan.heights.get(x.people.room[x.person]);
                case "here" -> x -> x.people.together(x.person);
                case "rode" -> x -> x.people.rode[x.person] ? 1 : 0;
                case "home" -> x -> x.people.room[x.person] == x.plan.homes.get(x.person) ? 1 : 0;
                case "top" -> x -> x.people.room[x.person] == x.plan.top() ? 1 : 0;
                default -> throw here(0);
            };
            part();
            next();
            return f;
        }
    }

    // ---- days --------------------------------------------------------------------------------

    static final class People {
        int now;
        int seated;
        int[] room;
        int[] target;
        int[] comes;
        boolean[] rode;

        static People at(List<Integer> rooms) {
            People p = new People();
            p.room = rooms.stream().mapToInt(x -> x).toArray();
            p.target = new int[rooms.size()];
            p.comes = new int[rooms.size()];
            p.rode = new boolean[rooms.size()];
            return p;
        }

        People copy() {
            People p = new People();
            p.now = now;
            p.seated = seated;
            p.room = room.clone();
            p.target = target.clone();
            p.comes = comes.clone();
            p.rode = rode.clone();
            return p;
        }

        int together(int person) {
            int n = 0;
            for (int r : room) {
                n += r == room[person] ? 1 : 0;
            }
            return n;
        }

        boolean act(Plan plan, int p, String deed, int way) {
            if (deed.equals("wait")) {
                return true;
            }
            if (deed.equals("ride")) {
                if (plan.every == 0 || now % plan.every != 0 || rode[p] || seated == plan.seats) {
                    return false;
                }
                seated++;
                rode[p] = true;
                target[p] = plan.top();
                comes[p] = now + plan.hoistMinutes;
                room[p] = NONE;
                return true;
            }
            if (way < 0 || way >= plan.ways.size()) {
                return false;
            }
            Way w = plan.ways.get(way);
            if (w.other(room[p]) == NONE || !w.open(now)) {
                return false;
            }
            target[p] = w.other(room[p]);
            comes[p] = now + w.minutes;
            room[p] = NONE;
            return true;
        }

        void minute(Plan plan, List<Clause> rule) {
            for (int p = 0; p < room.length; p++) {
                if (room[p] == NONE) {
                    continue;
                }
                Asker asker = new Asker(plan, this, p);
                for (Clause c : rule) {
                    if (c.test.applyAsLong(asker) == 1 && act(plan, p, c.deed, c.way)) {
                        break;
                    }
                }
            }
            now++;
            seated = 0;
            for (int p = 0; p < room.length && now < 1440; p++) {
                if (room[p] == NONE && comes[p] == now) {
                    room[p] = target[p];
                }
            }
        }

        int[] tally(Plan plan) {
            int[] t = new int[3];
            for (int p = 0; p < room.length; p++) {
                t[0] += room[p] == plan.homes.get(p) ? 1 : 0;
                t[1] += room[p] == NONE ? 1 : 0;
                t[2] += rode[p] ? 1 : 0;
            }
            return t;
        }
    }

    record Errand(int room, int from, int till, int worth) {
    }

    record Leg(int way, int from, int off, int to, int there) {
    }

    record Trip(int there, List<Leg> legs) {
    }

    static final class Things {
        Plan plan = new Plan();
        People people = People.at(List.of());
        List<Errand> errands = new ArrayList<>();
        List<Trip> trips = new ArrayList<>();
        List<Integer> riders = new ArrayList<>();
        List<int[]> customers = new ArrayList<>();
        int x;

        Things copy() {
            Things t = new Things();
            t.plan = plan;
            t.people = people.copy();
            t.errands = new ArrayList<>(errands);
            t.trips = new ArrayList<>(trips);
            t.riders = new ArrayList<>(riders);
            t.customers = new ArrayList<>(customers);
            t.x = x;
            return t;
        }
    }

    // ---- the face ----------------------------------------------------------------------------

    private StringBuilder tape = new StringBuilder();
    private final List<List<Clause>> rules = new ArrayList<>();
    private Things t = new Things();
    private final Things[] images = new Things[4];

    int feed(int a, int b, int c, int d, int e) {
        if (tape.length() > 380) {
            return NONE;
        }
        for (int n : new int[] {a, b, c, d, e}) {
            tape.append((char) (n >>> 24)).append((char) (n >>> 16 & 255)).append((char) (n >>> 8 & 255)).append((char) (n & 255));
        }
        return tape.length();
    }

    int end(int n) {
        if (n < 0 || n > tape.length()) {
            return NONE;
        }
        tape.setLength(n);
        return n;
    }

    int house() {
        Plan plan;
        try {
            plan = readHouse(tape.toString());
        } catch (Fault f) {
            return -2 - f.code;
        } finally {
            tape.setLength(0);
        }
        t.plan = plan;
        t.people = People.at(plan.homes);
        t.errands.clear();
        t.trips.clear();
        return plan.rooms();
    }

    int rule() {
        if (rules.size() == 6) {
            return NONE;
        }
        try {
            rules.add(readRule(tape.toString()));
        } catch (Fault f) {
            return -2 - f.code;
        } finally {
            tape.setLength(0);
        }
        return rules.size() - 1;
    }

    private boolean isRoom(int room) {
        return room >= 0 && room < t.plan.rooms();
    }

    private static boolean isMinute(int m) {
        return m >= 0 && m <= 1439;
    }

    private static boolean within(int what, int most) {
        return what >= 0 && what <= most;
    }

    int room(int room, int what) {
        if (!isRoom(room) || !within(what, 2)) {
            return NONE;
        }
        if (what == 0) {
            return t.plan.heights.get(room);
        }
        if (what == 2) {
            return t.plan.top() == room ? 1 : 0;
        }
        int bits = 0;
        for (int p = 0; p < t.people.room.length; p++) {
            bits += t.people.room[p] == room ? 1 << p : 0;
        }
        return bits;
    }

    int way(int way, int what) {
        if (way < 0 || way >= t.plan.ways.size() || !within(what, 5)) {
            return -2;
        }
        Way w = t.plan.ways.get(way);
        return new int[] {w.from, w.to, w.minutes, w.passage ? 1 : 0, w.opens, w.closes}[what];
    }

    int person(int p, int what) {
        if (p < 0 || p >= t.plan.homes.size() || !within(what, 4)) {
            return -2;
        }
        People q = t.people;
        boolean away = q.room[p] == NONE;
        return new int[] {q.room[p], t.plan.homes.get(p), q.rode[p] ? 1 : 0, away ? q.target[p] : NONE, away ? q.comes[p] : NONE}[what];
    }

    boolean go(int p, int way) {
        if (p < 0 || p >= t.plan.homes.size() || t.people.room[p] == NONE || t.people.now == 1440) {
            return false;
        }
        return way == 24 ? t.people.act(t.plan, p, "ride", NONE) : t.people.act(t.plan, p, "take", way);
    }

    private boolean isRule(int rule) {
        return rule >= 0 && rule < rules.size();
    }

    int tick(int rule, int n) {
        if (!isRule(rule) || n < 1 || n > 1440 || n + t.people.now > 1440) {
            return NONE;
        }
        for (int k = 0; k < n; k++) {
            t.people.minute(t.plan, rules.get(rule));
        }
        return t.people.now;
    }

    int ahead(int rule, int what) {
        if (!isRule(rule) || !within(what, 2)) {
            return NONE;
        }
        People p = t.people.copy();
        while (p.now < 1440) {
            p.minute(t.plan, rules.get(rule));
        }
        return p.tally(t.plan)[what];
    }

    /** For each minute, each room, and whether one has ridden: whether one can be there. */
    private boolean[][][] presence(int from, int minute, boolean hoist) {
        boolean[][][] can = new boolean[1440][t.plan.rooms()][2];
        if (!isMinute(minute)) {
            return can;
        }
        can[minute][from][hoist ? 0 : 1] = true;
        for (int m = minute; m < 1440; m++) {
            for (int r = 0; r < t.plan.rooms(); r++) {
                for (int h = 0; h < 2; h++) {
                    if (!can[m][r][h]) {
                        continue;
                    }
                    if (m + 1 < 1440) {
                        can[m + 1][r][h] = true;
                    }
                    for (Way w : t.plan.ways) {
                        if (w.other(r) != NONE && w.open(m) && m + w.minutes < 1440) {
                            can[m + w.minutes][w.other(r)][h] = true;
                        }
                    }
                    if (h == 0 && t.plan.every > 0 && m % t.plan.every == 0 && m + t.plan.hoistMinutes < 1440) {
                        can[m + t.plan.hoistMinutes][t.plan.top()][1] = true;
                    }
                }
            }
        }
        return can;
    }

    private static int firstIn(boolean[][][] can, int room) {
        for (int m = 0; m < 1440; m++) {
            if (can[m][room][0] || can[m][room][1]) {
                return m;
            }
        }
        return -2;
    }

    int soonest(int from, int minute, int to, boolean hoist) {
        if (!isRoom(from) || !isRoom(to) || !isMinute(minute)) {
            return NONE;
        }
        return firstIn(presence(from, minute, hoist), to);
    }

    int still(int from, int minute, boolean hoist) {
        if (!isRoom(from) || !isMinute(minute)) {
            return NONE;
        }
        boolean[][][] can = presence(from, minute, hoist);
        int bits = 0;
        for (int r = 0; r < t.plan.rooms(); r++) {
            bits += firstIn(can, r) >= 0 ? 1 << r : 0;
        }
        return bits;
    }

    private void rowsDown(int room, int to, ArrayDeque<Integer> row, List<List<Integer>> found) {
        if (room == to) {
            found.add(new ArrayList<>(row));
            return;
        }
        for (int k = 0; k < t.plan.ways.size(); k++) {
            Way w = t.plan.ways.get(k);
            if (!w.passage && w.from == room) {
                row.addLast(k);
                rowsDown(w.to, to, row, found);
                row.removeLast();
            }
        }
    }

    int downs(int from, int to, int what) {
        if (!isRoom(from) || !isRoom(to) || !within(what, 2)) {
            return NONE;
        }
        List<List<Integer>> found = new ArrayList<>();
        rowsDown(from, to, new ArrayDeque<>(), found);
        if (what == 0) {
            return Math.min(1000000, found.size());
        }
        if (found.isEmpty()) {
            return -2;
        }
        int longest = found.stream().mapToInt(List::size).max().getAsInt();
        if (what == 1) {
            return longest;
        }
        return longest == 0 ? -2 : found.stream().filter(r -> r.size() == longest).mapToInt(r -> r.get(0)).min().getAsInt();
    }

    int errand(int room, int from, int till, int worth) {
        if (t.errands.size() == 10 || !isRoom(room) || !isMinute(from) || !isMinute(till) || till < from || worth < 0 || worth > 99) {
            return NONE;
        }
        t.errands.add(new Errand(room, from, till, worth));
        return t.errands.size() - 1;
    }

    int best(int from, int minute, boolean hoist, int what) {
        if (!isRoom(from) || !isMinute(minute) || !within(what, 2)) {
            return NONE;
        }
        int rooms = t.plan.rooms();
        int sets = 1 << t.errands.size();
        int[] first = new int[sets];
        java.util.Arrays.fill(first, NONE);
        BitSet[][] can = new BitSet[1440][2 * rooms];
        put(can, minute, 2 * from + (hoist ? 0 : 1), BitSet.valueOf(new long[] {1}));
        for (int m = minute; m < 1440; m++) {
            for (int rh = 0; rh < 2 * rooms; rh++) {
                BitSet here = can[m][rh];
                if (here == null) {
                    continue;
                }
                int r = rh / 2;
                int h = rh % 2;
                for (int e = 0; e < t.errands.size(); e++) {
                    Errand g = t.errands.get(e);
                    if (g.room == r && m >= g.from && m <= g.till) {
                        for (int s = here.nextSetBit(0); s >= 0; s = here.nextSetBit(s + 1)) {
                            here.set(s | 1 << e);
                        }
                    }
                }
                for (int s = here.nextSetBit(0); s >= 0; s = here.nextSetBit(s + 1)) {
                    first[s] = first[s] == NONE ? m : first[s];
                }
                put(can, m + 1, rh, here);
                for (Way w : t.plan.ways) {
                    if (w.other(r) != NONE && w.open(m)) {
                        put(can, m + w.minutes, 2 * w.other(r) + h, here);
                    }
                }
                if (h == 0 && t.plan.every > 0 && m % t.plan.every == 0) {
                    put(can, m + t.plan.hoistMinutes, 2 * t.plan.top() + 1, here);
                }
            }
        }
        int bestSet = 0;
        for (int s = 0; s < sets; s++) {
            if (first[s] != NONE && (worth(s) > worth(bestSet) || worth(s) == worth(bestSet) && first[s] < first[bestSet])) {
                bestSet = s;
            }
        }
        return new int[] {worth(bestSet), bestSet, first[bestSet]}[what];
    }

    private int worth(int set) {
        int sum = 0;
        for (int e = 0; e < t.errands.size(); e++) {
            sum += (set >> e & 1) == 1 ? t.errands.get(e).worth : 0;
        }
        return sum;
    }

    private static void put(BitSet[][] can, int m, int rh, BitSet sets) {
        if (m < 1440) {
            if (can[m][rh] == null) {
                can[m][rh] = new BitSet();
            }
            can[m][rh].or(sets);
        }
    }

    int meeting(int one, int minute, int other, int otherMinute, boolean hoist, int what) {
        if (!isRoom(one) || !isRoom(other) || !isMinute(minute) || !isMinute(otherMinute) || !within(what, 2)) {
            return NONE;
        }
        boolean[][][] a = presence(one, minute, hoist);
        boolean[][][] b = presence(other, otherMinute, hoist);
        int when = -2;
        int where = -2;
        int bits = 0;
        for (int m = 0; m < 1440; m++) {
            for (int r = 0; r < t.plan.rooms(); r++) {
                if ((a[m][r][0] || a[m][r][1]) && (b[m][r][0] || b[m][r][1])) {
                    bits |= 1 << r;
                    if (when == -2) {
                        when = m;
                        where = r;
                    }
                }
            }
        }
        return new int[] {when, where, Integer.bitCount(bits)}[what];
    }

    int trip(int from, int minute, int to) {
        if (from == NONE) {
            t.trips.clear();
            return 0;
        }
        if (!isRoom(from) || !isRoom(to) || !isMinute(minute) || t.trips.size() == 12) {
            return -2;
        }
        int there = soonest(from, minute, to, false);
        if (there == -2) {
            return -2;
        }
        List<Leg> legs = new ArrayList<>();
        int[][] soon = soonestTable(to);
        int room = from;
        int m = minute;
        while (room != to) {
            Leg leg = null;
            for (int k = 0; k < t.plan.ways.size() && leg == null; k++) {
                Way w = t.plan.ways.get(k);
                int off = m;
                while (off < 1440 && !w.open(off)) {
                    off++;
                }
                int comes = off + w.minutes;
                if (w.other(room) != NONE && comes < 1440 && soon[comes][w.other(room)] == there) {
                    leg = new Leg(k, room, off, w.other(room), comes);
                }
            }
            legs.add(leg);
            room = leg.to;
            m = leg.there;
        }
        t.trips.add(new Trip(there, legs));
        return t.trips.size();
    }

    private int[][] soonestTable(int to) {
        int[][] soon = new int[1440][t.plan.rooms()];
        for (int m = 1439; m >= 0; m--) {
            for (int r = 0; r < t.plan.rooms(); r++) {
                int least = r == to ? m : m < 1439 ? soon[m + 1][r] : 5000;
                for (Way w : t.plan.ways) {
                    if (w.other(r) != NONE && w.open(m) && m + w.minutes < 1440) {
                        least = Math.min(least, soon[m + w.minutes][w.other(r)]);
                    }
                }
                soon[m][r] = least;
            }
        }
        return soon;
    }

    int trips(int trip, int k) {
        if (trip < 0 || trip >= t.trips.size() || k < -1) {
            return NONE;
        }
        Trip x = t.trips.get(trip);
        return k == -1 ? x.there : k < x.legs.size() ? x.legs.get(k).way : -2;
    }

    int brought(int room, int minute, int to) {
        if (!isRoom(room) || !isRoom(to) || !isMinute(minute)) {
            return NONE;
        }
        boolean[] carried = new boolean[t.trips.size()];
        boolean[][] lies = new boolean[1440][t.plan.rooms()];
        lies[minute][room] = true;
        for (int m = minute; m < 1440; m++) {
            for (int r = 0; r < t.plan.rooms() && m > minute; r++) {
                lies[m][r] |= lies[m - 1][r];
            }
            if (lies[m][to]) {
                return m;
            }
            for (int k = 0; k < t.trips.size(); k++) {
                for (Leg leg : t.trips.get(k).legs) {
                    if (leg.off == m) {
                        carried[k] |= lies[m][leg.from];
                        lies[leg.there][leg.to] |= carried[k];
                    }
                }
            }
        }
        return -2;
    }

    int rider(int minute) {
        if (minute == NONE) {
            t.riders.clear();
            return 0;
        }
        if (!isMinute(minute) || t.riders.size() == 20) {
            return -2;
        }
        t.riders.add(minute);
        return t.riders.size();
    }

    int rides(int what) {
        if (t.plan.every == 0 || what < 0 || what > 20 || what < 20 && what >= t.riders.size()) {
            return NONE;
        }
        int[] when = new int[t.riders.size()];
        java.util.Arrays.fill(when, -2);
        List<Integer> queue = new ArrayList<>();
        int longest = -2;
        for (int m = 0; m < 1440; m++) {
            for (int k = 0; k < t.riders.size(); k++) {
                if (t.riders.get(k) == m) {
                    queue.add(k);
                }
            }
            for (int s = 0; s < t.plan.seats && m % t.plan.every == 0 && !queue.isEmpty(); s++) {
                int k = queue.remove(0);
                when[k] = m;
                longest = Math.max(longest, m - t.riders.get(k));
            }
        }
        return what == 20 ? longest : when[what];
    }

    int customer(int from, int to) {
        if (from == NONE) {
            t.customers.clear();
            return 0;
        }
        if (!within(from, 5) || !within(to, 5) || from == to || t.customers.size() == 10) {
            return -2;
        }
        t.customers.add(new int[] {from, to});
        return t.customers.size();
    }

    private void orders(int n, List<Integer> row, List<List<Integer>> all) {
        if (row.size() == n) {
            all.add(new ArrayList<>(row));
        }
        for (int s = 0; s < n; s++) {
            if (!row.contains(s)) {
                row.add(s);
                orders(n, row, all);
                row.remove(row.size() - 1);
            }
        }
    }

    int order(int n, int what) {
        if (n < 1 || n > 6 || what < 0 || what > 6 || what < 6 && what >= n) {
            return NONE;
        }
        List<List<Integer>> all = new ArrayList<>();
        orders(n, new ArrayList<>(), all);
        int most = -1;
        List<Integer> found = null;
        for (List<Integer> row : all) {
            int down = 0;
            for (int[] c : t.customers) {
                boolean both = c[0] < n && c[1] < n;
                down += both && row.indexOf(c[0]) < row.indexOf(c[1]) ? 1 : 0;
            }
            if (down > most) {
                most = down;
                found = row;
            }
        }
        return what == 6 ? most : found.get(what);
    }

    int beds() {
        if (t.plan.rooms() == 0) {
            return NONE;
        }
        int bits = 0;
        People q = t.people;
        for (int p = 0; p < q.room.length; p++) {
            boolean away = q.room[p] == NONE;
            boolean comes;
            if (q.now == 1440) {
                comes = q.room[p] == t.plan.homes.get(p);
            } else {
                boolean[][][] can = presence(away ? q.target[p] : q.room[p], away ? q.comes[p] : q.now, !q.rode[p]);
                comes = firstIn(can, t.plan.homes.get(p)) >= 0;
            }
            bits += comes ? 0 : 1 << p;
        }
        return bits;
    }

    private int twos(int up) {
        int n = t.plan.rooms();
        boolean[][] can = new boolean[n][n];
        for (int k = 0; k < t.plan.ways.size(); k++) {
            Way w = t.plan.ways.get(k);
            can[w.from][w.to] = true;
            can[w.to][w.from] |= w.passage || k == up;
        }
        for (int k = 0; k < n; k++) {
            for (int i = 0; i < n; i++) {
                for (int j = 0; j < n; j++) {
                    can[i][j] |= can[i][k] && can[k][j];
                }
            }
        }
        int sum = 0;
        for (int i = 0; i < n; i++) {
            for (int j = 0; j < n; j++) {
                sum += i != j && can[i][j] ? 1 : 0;
            }
        }
        return sum;
    }

    int upward(int what) {
        if (t.plan.rooms() == 0 || !within(what, 2)) {
            return NONE;
        }
        int flight = -2;
        int most = -2;
        for (int k = 0; k < t.plan.ways.size(); k++) {
            if (!t.plan.ways.get(k).passage && twos(k) > most) {
                flight = k;
                most = twos(k);
            }
        }
        return new int[] {flight, most, twos(NONE)}[what];
    }

    int seed(int x) {
        if (x < 0) {
            return NONE;
        }
        int was = t.x;
        t.x = x;
        return was;
    }

    int drawn(int rule, int m, int what) {
        if (t.plan.rooms() == 0 || !isRule(rule) || m < 1 || m > 20 || !within(what, 1)) {
            return NONE;
        }
        long x = t.x;
        int sum = 0;
        for (int k = 0; k < m; k++) {
            List<Integer> rooms = new ArrayList<>();
            for (int p = 0; p < t.plan.homes.size(); p++) {
                x = (x * 1103515245L + 12345) & 0x7fffffffL;
                rooms.add((int) (x >> 16) % t.plan.rooms());
            }
            People people = People.at(rooms);
            while (people.now < 1440) {
                people.minute(t.plan, rules.get(rule));
            }
            sum += people.tally(t.plan)[what];
        }
        return sum;
    }

    int count(int what) {
        if (!within(what, 13)) {
            return NONE;
        }
        return new int[] {t.plan.rooms(), t.plan.ways.size(), t.plan.homes.size(), rules.size(), t.people.now, t.errands.size(),
            t.trips.size(), t.riders.size(), t.customers.size(), t.x, tape.length(), t.plan.hoistMinutes, t.plan.seats,
            t.plan.every}[what];
    }

    int image(int k) {
        if (!within(k, 3)) {
            return NONE;
        }
        images[k] = t.copy();
        return t.people.now;
    }

    int back(int k) {
        if (!within(k, 3) || images[k] == null) {
            return NONE;
        }
        t = images[k].copy();
        return t.people.now;
    }
}
