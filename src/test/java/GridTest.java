/** Every call with all of its numbers at, within and beyond their bounds at once, held against the model. */
public final class GridTest {
    private static final int MIN = Integer.MIN_VALUE, MAX = Integer.MAX_VALUE;
    private static final int[] HOUSE = {-1, 0, 1, 2, 3, 7, 8}, ROW = {-1, 0, 1, 2, 7, 8}, TWO = {-1, 0, 1, 2};
    private static final int[] PLACE = {MIN, -1, 0, 1, 28, 29, 39, 40, MAX}, HUM = {MIN, -1, 0, 1, 11, 12, 13, MAX};
    private static final int[] FAR = {MIN, -1, 0, 1, 30, 59, 60, 61, MAX};

    /** No street; one house; some with a FALLEN one and walls; all there can be. */
    private static final String[] STREETS = {"", "t5,40;k50,2;", "t30,12;w21,1;c12,9;p0,3;",
        "t12,9;w40,3;c22,2;s9,7;p60,1;k70,4;w0,5;c8,1;k51,9;"};

    private final String street;
    private Both both;
    private int wrong = 0;

    private GridTest(String street) {
        this.street = street;
        both = anew();
    }

    public static void main(String[] args) {
        for (String street : STREETS) {
            GridTest one = new GridTest(street);
            one.rows();
            one.done();
            one.foretold();
            one.heard();
            one.asked();
            one.judge();
        }
        Due.end("GridTest");
    }

    private Both anew() {
        Both b = new Both();
        if (!street.isEmpty()) {
            b.feed(street);
            b.call("street");
            b.call("touch", 0, 1);
            b.call("touch", 2, 1);
            b.call("image", 1);
        }
        b.call("row", 0, 0, 40);
        b.call("row", 1, 1, 29);
        b.call("row", 7, 1, 3);
        hum(b);
        b.call("ask", 1, 1);
        return b;
    }

    /** Row 1 has, up to its end, what house 1 hums for twelve hours. */
    private static void hum(Both b) {
        for (int i = 0; i < 12; i++) {
            b.call("set", 1, 17 + i, b.m.ahead(1, i + 1));
        }
    }

    private void judge() {
        if (wrong < 3 && !both.judge("grid of street " + street)) {
            wrong++;
        }
        both = anew();
    }

    private void grid(String name, int[]... values) {
        grid(name, values, new int[values.length], 0);
    }

    private void grid(String name, int[][] values, int[] a, int known) {
        if (known < values.length) {
            for (int v : values[known]) {
                a[known] = v;
                grid(name, values, a, known + 1);
            }
            return;
        }
        if (both.isOver() || both.callsLeft() < 4) {
            judge();
        }
        both.call(name, a);
        both.call("status");
        both.call("count", 4);
        both.call("count", 6);
    }

    private void rows() {
        grid("row", new int[] {MIN, -1, 0, 7, 8, MAX}, new int[] {MIN, -1, 0, 1, 2, 3, MAX},
            new int[] {MIN, -1, 0, 1, 40, 41, MAX});
        judge();
        grid("set", ROW, new int[] {MIN, -1, 0, 2, 3, 28, 29, 39, 40, MAX},
            new int[] {MIN, -32769, -32768, -129, -128, -1, 0, 127, 128, 255, 256, 32767, 32768, 65536, MAX});
        judge();
        int[] place = {MIN, -1, 0, 1, 3, 4, 28, 40, MAX};
        grid("copy", ROW, place, ROW, place, new int[] {MIN, -1, 0, 1, 2, 3, 12, MAX});
        judge();
        grid("drop", new int[] {MIN, -1, 0, 1, 2, 7, 8, MAX});
        grid("feed", new int[] {MIN, -1, 0, 116, 255, 256, MAX});
        judge();
    }

    private void done() {
        grid("hours", new int[] {MIN, -1, 0, 1, 2, 24, 25, MAX});
        judge();
        grid("lash", HOUSE);
        grid("touch", new int[] {MIN, -1, 0, 1, 2, 5, 6, 7, MAX}, TWO);
        grid("putUp", HOUSE);
        grid("house", HOUSE, new int[] {MIN, -1, 0, 1, 2, 3, 4, 5, 6, MAX});
        grid("stand", new int[] {MIN, -1, 0, 1, 2, 3, 4, 5, 6, MAX});
        grid("image", new int[] {MIN, -1, 0, 1, 2, MAX});
        grid("undo");
        grid("restore", new int[] {MIN, -1, 0, 1, 2, MAX});
        grid("undo");
        judge();
    }

    private void foretold() {
        grid("ahead", HOUSE, FAR);
        grid("when", HOUSE, TWO);
        grid("first", TWO);
        grid("left", FAR);
        grid("round", HOUSE, new int[] {MIN, -1, 0, 1, 2, 4, 8, MAX}, new int[] {MIN, -3, -2, -1, 0, 1, 2, 4, 7, MAX});
        grid("round", new int[] {0, 1}, new int[] {7}, new int[] {-2, 6, 7});
        grid("walls", new int[] {MIN, 0, 1, 7, 60, 61, MAX}, TWO);
        grid("steady", FAR, TWO);
        grid("boys", new int[] {MIN, -1, 0, 1, 2, 3, 4, 5, MAX}, new int[] {MIN, -1, 0, 1, 20, 21, MAX});
        grid("string", HOUSE, new int[] {MIN, -1, 0, 1, 3, 500, 999, 1000, MAX});
        judge();
    }

    private void heard() {
        grid("who", new int[] {-1, 0, 1, 2, 8}, new int[] {MIN, -1, 0, 1, 2, 3, 4, 5, MAX}, ROW,
            new int[] {MIN, -1, 0, 17, 18, 40, MAX}, HUM);
        judge();
        grid("finger", HOUSE, ROW, PLACE, HUM);
        grid("finger", HOUSE, new int[] {1}, new int[] {17, 18}, new int[] {1, 11, 12});
        judge();
        grid("lashes", HOUSE, HOUSE, ROW, new int[] {-1, 17, 28, 29}, new int[] {0, 1, 12, 13});
        judge();
    }

    private void asked() {
        grid("crack", HOUSE, new int[] {MIN, -1, 0, 1, 31, MAX}, new int[] {MIN, -1, 0, 1, 5, 10, 11, MAX}, TWO);
        grid("crack", new int[] {0, 1}, new int[] {30}, new int[] {0, 3, 10}, new int[] {0, 1});
        grid("drawn", FAR, new int[] {MIN, -1, 0, 1, 2, 999999, 1000000, MAX}, TWO);
        grid("kind", HOUSE);
        grid("as", HOUSE, new int[] {MIN, -1, 0, 1, 2, 3, 4, 5, 6, MAX});
        grid("ask", HOUSE, TWO);
        grid("trace", new int[] {MIN, -1, 0, 1, 2, 3, 5, 6, 15, 16, MAX});
        grid("count", new int[] {MIN, -1, 0, 1, 2, 3, 4, 5, 6, 7, 8, MAX});
        judge();
    }
}
