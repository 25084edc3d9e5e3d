import java.util.Random;

/** Many right, spoilt and overfull texts: the class and the model must answer the same to each. */
public final class RandomTextsTest {
    private RandomTextsTest() {
    }

    private static String overfull(Random r) {
        StringBuilder s = new StringBuilder();
        int kind = r.nextInt(7);
        int n = 8 + r.nextInt(60);
        s.append(kind < 3 ? "room 1;room0;" : "wait");
        for (int k = 0; k < n; k++) {
            switch (kind) {
                case 0 -> s.append(r.nextInt(30) == 0 ? "hoist1 1 1;" : "room" + r.nextInt(3) + ";");
                case 1 -> s.append("flight0 1 9;");
                case 2 -> s.append("person1;");
                case 3 -> s.append(";ride");
                case 4 -> s.append(k == 0 ? " if " : "").append(r.nextInt(9) == 0 ? "1=1 and " : r.nextBoolean() ? "not " : "[");
                case 5 -> s.append(k == 0 ? " if 1" : r.nextInt(6) == 0 ? "=1 or 1" : "+now");
                default -> s.append(k == 0 ? " if top=0" : "or 1*2<room");
            }
        }
        if (kind == 4) {
            s.append("1=1");
            s.append("]".repeat(r.nextInt(13)));
        } else if (kind == 5) {
            s.append("=0");
        } else if (r.nextBoolean() && s.charAt(s.length() - 1) == ';') {
            s.setLength(s.length() - 1);
        }
        s.setLength(Math.min(400, s.length()));
        return s.toString();
    }

    private static String anyText(Random r) {
        int k = r.nextInt(5);
        String text = k == 0 ? overfull(r) : k < 3 ? Texts.house(r) : Texts.rule(r);
        return r.nextInt(3) == 0 ? text : Texts.spoilt(r, text);
    }

    private static int asked(Model m, String text, boolean house) {
        m.end(0);
        for (int[] f : Texts.feeds(text)) {
            m.feed(f[0], f[1], f[2], f[3], f[4]);
        }
        m.end(text.length());
        return house ? m.house() : m.rule();
    }

    public static void main(String[] args) {
        int texts = args.length > 0 ? Integer.parseInt(args[0]) : 60000;
        Random r = new Random(args.length > 1 ? Long.parseLong(args[1]) : 7);
        DownOnly x = new DownOnly();
        Model m = new Model();
        int[] kinds = new int[6];
        for (int k = 0; k < texts; k++) {
            String text = anyText(r);
            for (int house = 0; house < 2; house++) {
                int got = house == 1 ? Texts.house(x, text) : Texts.rule(x, text);
                int due = asked(m, text, house == 1);
                if (got != due || x.count(10) != m.count(10)) {
                    System.out.println((house == 1 ? "house " : "rule ") + text + " answered " + got + ", due is " + due);
                    System.exit(1);
                }
                kinds[got >= -1 ? 5 : (-3 - got) % 8]++;
            }
            // 9 texts take fewer than the 512 calls for which an object is used
            if (k % 9 == 8 || m.count(3) == 6) {
                x = new DownOnly();
                m = new Model();
            }
        }
        for (int kind = 0; kind < kinds.length; kind++) {
            if (kinds[kind] < 50) {
                System.out.println("the random texts hardly meet faults of kind " + kind);
                System.exit(1);
            }
        }
        System.out.println(texts + " random texts are as the model's " + java.util.Arrays.toString(kinds));
    }
}
