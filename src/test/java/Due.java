/** Counts the answers that are not the ones due, for the tests of the project. */
final class Due {
    private static int looked = 0;
    private static int wrong = 0;

    private Due() {
    }

    static void is(String call, long want, long got) {
        looked++;
        if (want != got) {
            wrong++;
            System.out.println(call + " answered " + got + ", due is " + want);
        }
    }

    /** Prints the sum, and ends with exit code 1 if an answer was wrong. */
    static void end(String test) {
        System.out.println(test + ": " + looked + " answers, " + wrong + " not as due");
        if (wrong != 0 || looked == 0) {
            System.exit(1);
        }
    }

    /** An object that has read a street; the text is taken as right. */
    static TopStreet street(String text) {
        TopStreet x = new TopStreet();
        feed(x, text);
        int houses = x.street();
        if (houses < 1) {
            is("street() of " + text, 1, houses);
        }
        return x;
    }

    static void feed(TopStreet x, String text) {
        for (int i = 0; i < text.length(); i++) {
            is("feed of " + text, i + 1, x.feed(text.charAt(i)));
        }
    }

    /** Makes row r of ints hold the items. */
    static void row(TopStreet x, int r, int... items) {
        is("row", items.length, x.row(r, 2, items.length));
        for (int i = 0; i < items.length; i++) {
            is("set", items[i], x.set(r, i, items[i]));
        }
    }

    static void spins(String of, TopStreet x, int... due) {
        for (int h = 0; h < due.length; h++) {
            is("SPIN of " + h + ", " + of, due[h], x.house(h, 0));
        }
    }

    /** Whatever a round of as many hours as the row has answers. */
    static void round(TopStreet x, int house, int stand, int least, int... row) {
        String of = "round from " + house + ", ";
        int n = row.length;
        is(of + "how many stand", stand, x.round(house, n, -1));
        is(of + "the least", least, x.round(house, n, -2));
        for (int k = 0; k < n; k++) {
            is(of + "k = " + k, row[k], x.round(house, n, k));
        }
        is(of + "not so many", TopStreet.NONE, x.round(house, n, n));
    }

    static void crack(TopStreet x, int house, int n, int p, long above, long below) {
        String of = "crack(" + house + ", " + n + ", " + p;
        is(of + ", 0)", above, x.crack(house, n, p, 0));
        is(of + ", 1)", below, x.crack(house, n, p, 1));
    }
}
