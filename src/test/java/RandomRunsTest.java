import java.util.Random;

/** All promises: runs of calls by seeds, each answer held against the model's. */
public final class RandomRunsTest {
    private static final String[] NAMES = {"row", "set", "copy", "drop", "feed", "street", "fault", "undo", "hours",
        "lash", "touch", "putUp", "house", "stand", "ahead", "when", "first", "left", "round", "walls", "steady",
        "boys", "string", "who", "finger", "lashes", "crack", "drawn", "image", "restore", "kind", "as", "ask",
        "trace", "count", "status"};
    private static final int RUNS = 3600, STEPS = 160;
    private static final int[] FAR = {Integer.MIN_VALUE, Integer.MAX_VALUE, -1000000, 1000000, -1, 8, 61, 999};

    private final Random random;
    private final Both both = new Both();

    private RandomRunsTest(long seed) {
        random = new Random(seed);
    }

    public static void main(String[] args) {
        int wrong = 0;
        for (int run = 0; run < RUNS && wrong < 3; run++) {
            RandomRunsTest one = new RandomRunsTest(run);
            one.go();
            wrong += one.both.judge("run " + run) ? 0 : 1;
        }
        Due.end("RandomRunsTest");
    }

    private void go() {
        if (random.nextInt(20) != 0) {
            feedStreet();
        }
        for (int i = 0; i < STEPS && !both.isOver(); i++) {
            step();
        }
    }

    private void step() {
        int dice = random.nextInt(100);
        if (dice < 2) {
            feedStreet();
        } else if (dice < 14) {
            hum();
        } else if (dice < 16) {
            for (int i = 0; i < 30; i++) {
                both.call("lash", any(8));
            }
        } else {
            String name = NAMES[random.nextInt(NAMES.length)];
            // a street fed by one call each is seldom one
            if (!name.equals("street") || random.nextInt(6) == 0) {
                both.call(name, arguments(name));
            }
        }
    }

    /** A row that holds what a house of the model hums, now and then spoilt. */
    private void hum() {
        int house = any(8);
        int n = 1 + random.nextInt(12);
        int row = random.nextInt(8);
        both.call("row", row, random.nextInt(3), n + random.nextInt(3));
        int from = random.nextInt(3);
        for (int i = 0; i < n; i++) {
            int v = both.m.ahead(house, i + 1) + (random.nextInt(40) == 0 ? 1 : 0);
            both.call("set", row, from + i, v);
        }
        for (int which = 0; which < 5; which++) {
            both.call("who", house, which, row, from, n);
        }
        both.call("finger", house, row, from, n);
        both.call("lashes", house, any(8), row, from, n);
    }

    private int any(int below) {
        return random.nextInt(60) == 0 ? FAR[random.nextInt(FAR.length)] : random.nextInt(below);
    }

    private int[] arguments(String name) {
        switch (name) {
            case "row": return new int[] {any(9), any(4), any(44) - 2};
            case "set": return new int[] {any(9), any(42) - 1, random.nextInt() >> random.nextInt(32)};
            case "copy": return new int[] {any(9), any(9) - 1, any(9), any(9) - 1, any(9) - 1};
            case "feed": return new int[] {any(256)};
            case "hours": return new int[] {random.nextInt(3) == 0 ? any(26) : 1 + any(3)};
            case "touch": return new int[] {any(8), any(3)};
            case "house": return new int[] {any(8), any(7)};
            case "stand": return new int[] {any(7)};
            case "ahead": return new int[] {any(8), any(62)};
            case "when":
            case "ask": return new int[] {any(8), any(3)};
            case "first": return new int[] {any(3)};
            case "left": return new int[] {any(62)};
            case "round": return new int[] {any(8), 1 + random.nextInt(random.nextInt(8) == 0 ? 8 : 4), any(12) - 3};
            case "walls":
            case "steady": return new int[] {any(62), any(3)};
            case "boys": return new int[] {random.nextInt(4) == 0 ? any(6) : any(4), any(22)};
            case "string": return new int[] {any(8), any(1001)};
            case "who": return new int[] {any(8), any(6), any(8), any(5) - 1, any(14)};
            case "finger": return new int[] {any(8), any(8), any(5) - 1, any(14)};
            case "lashes": return new int[] {any(8), any(8), any(8), any(5) - 1, any(14)};
            case "crack": return new int[] {any(8), any(32), any(12), any(3)};
            case "drawn": return new int[] {any(62), random.nextInt(1000002), any(3)};
            case "image":
            case "restore": return new int[] {any(3)};
            case "as": return new int[] {any(8), any(7)};
            case "trace": return new int[] {any(8) - 1};
            case "count": return new int[] {any(9)};
            case "street":
            case "fault":
            case "undo":
            case "status": return new int[0];
            default: return new int[] {any(9)};
        }
    }

    private void feedStreet() {
        StringBuilder text = new StringBuilder();
        text.append('t').append(1 + random.nextInt(30)).append(',').append(random.nextInt(41)).append(';');
        int houses = 1 + random.nextInt(8);
        boolean slow = random.nextInt(3) == 0;
        for (int h = 0; h < houses; h++) {
            int spin = random.nextInt(8) == 0 ? 0 : random.nextInt(slow ? 30 : 100);
            text.append("wcspk".charAt(random.nextInt(5))).append(spin).append(',');
            text.append(1 + random.nextInt(9)).append(';');
        }
        if (random.nextInt(4) == 0) {
            int at = random.nextInt(text.length());
            String signs = "0123456789,;wcspkta z";
            switch (random.nextInt(4)) {
                case 0: text.deleteCharAt(at); break;
                case 1: text.insert(at, signs.charAt(random.nextInt(signs.length()))); break;
                case 2: text.setCharAt(at, signs.charAt(random.nextInt(signs.length()))); break;
                default: text.setLength(at);
            }
        } else if (random.nextInt(20) == 0) {
            text.append("w1,1;w1,1;w1,1;w1,1;");
        }
        both.feed(text.toString());
        both.call("street");
        for (int i = 0; i < 4; i++) {
            both.call("touch", random.nextInt(8), 1);
        }
    }
}
