import java.util.ArrayList;
import java.util.List;
import java.util.Random;

/** Random texts of houses and rules, right ones and spoilt ones, and the feeding of a text. */
final class Texts {
    private Texts() {
    }

    /** The five numbers of each feed that brings a text, its end filled up with zeros. */
    static List<int[]> feeds(String text) {
        List<int[]> feeds = new ArrayList<>();
        for (int at = 0; at < text.length(); at += 20) {
            int[] numbers = new int[5];
            for (int k = 0; k < 20; k++) {
                int c = at + k < text.length() ? text.charAt(at + k) & 255 : 0;
                numbers[k / 4] = numbers[k / 4] << 8 | c;
            }
            feeds.add(numbers);
        }
        return feeds;
    }

    static void tell(DownOnly x, String text) {
        int before = x.count(10);
        for (int[] f : feeds(text)) {
            x.feed(f[0], f[1], f[2], f[3], f[4]);
        }
        x.end(before + text.length());
    }

    static int house(DownOnly x, String text) {
        x.end(0);
        tell(x, text);
        return x.house();
    }

    static int rule(DownOnly x, String text) {
        x.end(0);
        tell(x, text);
        return x.rule();
    }

    private static String pick(Random r, String... of) {
        return of[r.nextInt(of.length)];
    }

    static String house(Random r) {
        int rooms = r.nextInt(12) == 0 ? 1 : 2 + r.nextInt(r.nextInt(3) == 0 ? 15 : 7);
        int levels = 1 + r.nextInt(6);
        int[] height = new int[rooms];
        List<String> clauses = new ArrayList<>();
        for (int k = 0; k < rooms; k++) {
            height[k] = r.nextInt(levels) * (1 + r.nextInt(2)) + (r.nextInt(30) == 0 ? 30 : 0);
            clauses.add("room " + height[k]);
        }
        int ways = 0;
        int wanted = r.nextInt(4) == 0 ? r.nextInt(4) : 2 + r.nextInt(14);
        int slow = r.nextInt(3) == 0 ? 60 : 12;
        for (int k = 0; k < 60 && ways < wanted; k++) {
            int a = r.nextInt(rooms);
            int b = r.nextInt(rooms);
            if (height[a] > height[b]) {
                clauses.add("flight " + a + " " + b + " " + (1 + r.nextInt(slow)));
                ways++;
            } else if (height[a] == height[b] && a != b && r.nextInt(3) > 0) {
                clauses.add("passage " + a + " " + b + " " + (1 + r.nextInt(slow)));
                ways++;
            }
        }
        int doors = ways == 0 || r.nextInt(3) == 0 ? 0 : r.nextInt(5);
        for (int k = 0; k < doors; k++) {
            int from = r.nextInt(5) == 0 ? 0 : r.nextInt(r.nextBoolean() ? 1440 : 200);
            int till = r.nextInt(5) == 0 ? 1439 : from + r.nextInt(Math.min(1440 - from, r.nextBoolean() ? 20 : 1440));
            clauses.add("door " + r.nextInt(ways) + " " + from + " " + till);
        }
        if (r.nextInt(3) > 0) {
            int every = r.nextBoolean() ? 1 + r.nextInt(120) : 1 + r.nextInt(10);
            clauses.add(r.nextInt(clauses.size() + 1), "hoist " + (1 + r.nextInt(60)) + " " + (1 + r.nextInt(3)) + " " + every);
        }
        int people = r.nextInt(6);
        for (int k = 0; k < people; k++) {
            clauses.add("person " + r.nextInt(rooms));
        }
        return joined(r, clauses);
    }

    private static String joined(Random r, List<String> clauses) {
        boolean airy = r.nextInt(3) == 0;
        StringBuilder text = new StringBuilder();
        for (String clause : clauses) {
            String next = (text.length() == 0 ? "" : airy ? " ; " : ";") + clause;
            if (text.length() + next.length() <= 400) {
                text.append(next);
            }
        }
        return text.toString();
    }

    static String rule(Random r) {
        int clauses = r.nextInt(20) == 0 ? 12 : 1 + r.nextInt(6);
        List<String> list = new ArrayList<>();
        for (int k = 0; k < clauses; k++) {
            String deed = r.nextInt(3) > 0 ? "take " + r.nextInt(r.nextInt(5) == 0 ? 24 : 8) : r.nextBoolean() ? "ride" : "wait";
            if (deed.equals("wait") && r.nextInt(4) > 0) {
                deed += " if now < " + r.nextInt(1440);
            } else if (r.nextInt(3) > 0) {
                deed += " if " + test(r, r.nextInt(3));
            }
            list.add(deed);
        }
        return joined(r, list);
    }

    static String test(Random r, int depth) {
        StringBuilder s = new StringBuilder(part(r, depth));
        while (r.nextInt(4) == 0) {
            s.append(" or ").append(part(r, depth));
        }
        return s.toString();
    }

    private static String part(Random r, int depth) {
        StringBuilder s = new StringBuilder(fact(r, depth));
        while (r.nextInt(4) == 0) {
            s.append(" and ").append(fact(r, depth));
        }
        return s.toString();
    }

    private static String fact(Random r, int depth) {
        int k = r.nextInt(6);
        if (depth > 0 && k == 0) {
            return "not " + fact(r, depth - 1);
        }
        if (depth > 0 && k == 1) {
            return "[" + test(r, depth - 1) + "]";
        }
        return sum(r) + pick(r, "<", "<=", "=", ">=", ">", " < ", " >= ") + sum(r);
    }

    private static String sum(Random r) {
        StringBuilder s = new StringBuilder(value(r));
        while (r.nextInt(3) == 0) {
            s.append(pick(r, "+", "-", "*", "/", " / ", " - ")).append(value(r));
        }
        return s.toString();
    }

    private static String value(Random r) {
        if (r.nextInt(3) == 0) {
            return Integer.toString(r.nextInt(6) == 0 ? r.nextInt(100000) : r.nextInt(12));
        }
        return pick(r, "now", "now", "person", "room", "height", "here", "rode", "home", "top");
    }

    /** A text with some of its bytes or pieces changed, left out, doubled or put elsewhere. */
    static String spoilt(Random r, String text) {
        StringBuilder s = new StringBuilder(text);
        int times = 1 + r.nextInt(2);
        for (int k = 0; k < times && s.length() > 0; k++) {
            int at = r.nextInt(s.length());
            switch (r.nextInt(6)) {
                case 0 -> s.deleteCharAt(at);
                case 1 -> s.setCharAt(at, "0129azif;[]<>=+-*/ A\0".charAt(r.nextInt(21)));
                case 2 -> s.insert(at, pick(r, "0", "9", "99999", "000000", " ", ";", "[", "]", "not ", " and ", " or ", "=", "<=", "if "));
                case 3 -> s.setLength(at);
                case 4 -> s.insert(at, s.substring(at, Math.min(s.length(), at + 1 + r.nextInt(12))));
                default -> s.append(pick(r, ";", " ", ";room 5", "]", ";ride", " if", "7", "x"));
            }
        }
        if (s.length() > 400) {
            s.setLength(400);
        }
        return s.toString();
    }
}
