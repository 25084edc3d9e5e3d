import java.util.ArrayList;
import java.util.List;
import java.util.Random;

/** Random runs of calls on the class and on the plain model; every answer must be the same. */
public final class AgainstModelTest {
    private static final int[] WILD = {-2, -1, 6, 16, 24, 40, 1440, Integer.MAX_VALUE, Integer.MIN_VALUE};

    private final Random r;
    private final DownOnly x = new DownOnly();
    private final Model m = new Model();
    private final List<String> log = new ArrayList<>();
    private boolean wrong;

    private AgainstModelTest(long seed) {
        r = new Random(seed);
    }

    private void same(String call, int got, int due) {
        log.add(call + " = " + got);
        if (got != due && !wrong) {
            wrong = true;
            log.add("  due is " + due);
        }
    }

    private static int asInt(boolean b) {
        return b ? 1 : 0;
    }

    private int less(int n) {
        return r.nextInt(Math.max(1, n));
    }

    private int oneOf(int n) {
        return r.nextInt(25) == 0 ? WILD[r.nextInt(WILD.length)] : less(n);
    }

    private int room() {
        return oneOf(m.count(0));
    }

    private int minute() {
        int k = r.nextInt(12);
        return k == 0 ? 0 : k == 1 ? 1439 : k == 2 ? oneOf(1440) : k < 6 ? r.nextInt(1440) : r.nextInt(300);
    }

    private void feed(String text) {
        for (int[] f : Texts.feeds(text)) {
            same("feed", x.feed(f[0], f[1], f[2], f[3], f[4]), m.feed(f[0], f[1], f[2], f[3], f[4]));
        }
    }

    private void tell(boolean house) {
        String text = house ? Texts.house(r) : Texts.rule(r);
        if (r.nextInt(4) == 0) {
            text = Texts.spoilt(r, text);
        }
        if (r.nextInt(5) > 0) {
            same("end(0)", x.end(0), m.end(0));
        }
        int n = m.count(10) + text.length();
        feed(text);
        log.add(text);
        same("end", x.end(n), m.end(n));
        if (house) {
            same("house()", x.house(), m.house());
        } else {
            same("rule()", x.rule(), m.rule());
        }
    }

    private void ask() {
        boolean hoist = r.nextBoolean();
        int a = room();
        int b = room();
        int t = minute();
        int u = minute();
        int w = oneOf(3);
        int rule = oneOf(m.count(3));
        String at = "(" + a + ", " + t + ", " + b + ", " + u + ", " + hoist + ", what " + w + ", rule " + rule + ")";
        switch (r.nextInt(34)) {
            case 0 -> same("room" + at, x.room(a, w), m.room(a, w));
            case 1 -> {
                int k = oneOf(m.count(1));
                int what = oneOf(6);
                same("way " + k + " " + what, x.way(k, what), m.way(k, what));
            }
            case 2 -> {
                int k = oneOf(m.count(2));
                int what = oneOf(5);
                same("person " + k + " " + what, x.person(k, what), m.person(k, what));
            }
            case 3, 4 -> {
                int p = oneOf(m.count(2));
                int k = r.nextInt(3) == 0 ? 24 : oneOf(m.count(1));
                same("go " + p + " " + k, asInt(x.go(p, k)), asInt(m.go(p, k)));
            }
            case 5, 6 -> {
                int n = r.nextInt(6) == 0 ? oneOf(1441) : r.nextInt(50);
                same("tick " + rule + " " + n, x.tick(rule, n), m.tick(rule, n));
            }
            case 7 -> same("ahead" + at, x.ahead(rule, w), m.ahead(rule, w));
            case 8 -> same("soonest" + at, x.soonest(a, t, b, hoist), m.soonest(a, t, b, hoist));
            case 9 -> same("still" + at, x.still(a, t, hoist), m.still(a, t, hoist));
            case 10 -> same("downs" + at, x.downs(a, b, w), m.downs(a, b, w));
            case 11, 12, 13 -> {
                int till = r.nextInt(10) == 0 ? u : Math.min(1439, t + r.nextInt(60));
                int worth = r.nextInt(4) == 0 ? 0 : oneOf(100);
                same("errand" + at + till + " " + worth, x.errand(a, t, till, worth), m.errand(a, t, till, worth));
            }
            case 14, 15 -> same("best" + at, x.best(a, t, hoist, w), m.best(a, t, hoist, w));
            case 16 -> same("meeting" + at, x.meeting(a, t, b, u, hoist, w), m.meeting(a, t, b, u, hoist, w));
            case 17, 18, 19 -> {
                int from = r.nextInt(40) == 0 ? -1 : a;
                same("trip " + from + at, x.trip(from, t, b), m.trip(from, t, b));
            }
            case 20, 21 -> {
                int k = oneOf(m.count(6));
                int way = r.nextInt(30) == 0 ? oneOf(3000) : r.nextInt(6) - 1;
                same("trips " + k + " " + way, x.trips(k, way), m.trips(k, way));
            }
            case 22 -> same("brought" + at, x.brought(a, t, b), m.brought(a, t, b));
            case 23, 24 -> {
                int k = r.nextInt(60) == 0 ? -1 : t;
                same("rider " + k, x.rider(k), m.rider(k));
            }
            case 25 -> {
                int k = oneOf(21);
                same("rides " + k, x.rides(k), m.rides(k));
            }
            case 26 -> {
                int from = r.nextInt(40) == 0 ? -1 : oneOf(6);
                int to = oneOf(6);
                same("customer " + from + " " + to, x.customer(from, to), m.customer(from, to));
            }
            case 27 -> {
                int n = oneOf(7);
                int what = oneOf(7);
                same("order " + n + " " + what, x.order(n, what), m.order(n, what));
            }
            case 28 -> same("beds", x.beds(), m.beds());
            case 29 -> same("upward" + at, x.upward(w), m.upward(w));
            case 30 -> {
                int n = r.nextInt(4) == 0 ? oneOf(10) : r.nextInt();
                same("seed " + n, x.seed(n), m.seed(n));
            }
            case 31 -> {
                int n = r.nextInt(12) == 0 ? oneOf(22) : 1 + r.nextInt(3);
                same("drawn " + n + at, x.drawn(rule, n, w), m.drawn(rule, n, w));
            }
            case 32 -> same("image " + w, x.image(w), m.image(w));
            default -> same("back " + w, x.back(w), m.back(w));
        }
    }

    private void countAll() {
        for (int what = -1; what <= 14; what++) {
            same("count " + what, x.count(what), m.count(what));
        }
    }

    private boolean run() {
        if (r.nextInt(3) > 0) {
            tell(true);
            tell(false);
        }
        int calls = 60 + r.nextInt(200);
        // an object is asked no more than 512 calls, and a text is told by up to 23 of them
        for (int k = 0; k < calls && !wrong && log.size() < 512 - 16 - 23; k++) {
            if (r.nextInt(40) == 0) {
                tell(r.nextInt(3) == 0);
            } else {
                ask();
            }
        }
        countAll();
        return !wrong;
    }

    public static void main(String[] args) {
        int runs = args.length > 0 ? Integer.parseInt(args[0]) : 1500;
        long first = args.length > 1 ? Long.parseLong(args[1]) : 1;
        for (long seed = first; seed < first + runs; seed++) {
            AgainstModelTest test = new AgainstModelTest(seed);
            if (!test.run()) {
                System.out.println("run " + seed + " goes wrong:");
                test.log.forEach(System.out::println);
                System.exit(1);
            }
        }
        System.out.println(runs + " random runs are as the model's");
    }
}
