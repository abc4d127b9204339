/**
 * 'Terms', its opening words, for every call: which numbers it takes, on both sides of each bound; that BAD comes ahead
 * of the rest but where STATE does; and that what is refused, found or foretold changes nothing but status().
 */
public final class RangesTest {
    private static final int BAD = TopStreet.BAD, STATE = TopStreet.STATE, FULL = TopStreet.FULL;
    private static final int MIN = Integer.MIN_VALUE, MAX = Integer.MAX_VALUE;
    private static final Range HOUSE = new Range(0, 3), ROW = new Range(0, 7), ANY = new Range(MIN, MAX);
    private static final String[] NAMES = {"row", "set", "copy", "drop", "feed", "hours", "lash", "touch", "putUp",
        "house", "stand", "ahead", "when", "first", "left", "round", "walls", "steady", "boys", "string", "who",
        "finger", "lashes", "crack", "drawn", "image", "restore", "kind", "as", "ask", "trace", "count"};

    private record Range(int least, int most) {
    }

    public static void main(String[] args) {
        for (String name : NAMES) {
            takesItsRanges(name);
            needsAStreet(name);
        }
        refusedByState();
        refusedAsFull();
        foundChangesNothing();
        foretoldChangesNothing();
        faultChangesNothing();
        Due.end("RangesTest");
    }

    /** What the document tells of each number of a call, in a street of four houses. */
    private static Range[] ranges(String name) {
        switch (name) {
            case "row": return of(ROW, new Range(0, 2), new Range(MIN, 40));
            case "set": return of(ROW, ANY, ANY);
            case "copy": return of(ROW, ANY, ROW, ANY, ANY);
            case "drop": return of(ROW);
            case "feed": return of(new Range(0, 255));
            case "hours": return of(new Range(1, 24));
            case "lash":
            case "putUp":
            case "kind": return of(HOUSE);
            case "touch": return of(new Range(0, 2), new Range(0, 1));
            case "house": return of(HOUSE, new Range(0, 5));
            case "stand": return of(new Range(0, 5));
            case "ahead": return of(HOUSE, new Range(0, 60));
            case "when":
            case "ask": return of(HOUSE, new Range(0, 1));
            case "first":
            case "image":
            case "restore": return of(new Range(0, 1));
            case "left": return of(new Range(0, 60));
            case "round": return of(HOUSE, new Range(1, 7), new Range(-2, MAX));
            case "walls":
            case "steady": return of(new Range(1, 60), new Range(0, 1));
            case "boys": return of(new Range(0, 4), new Range(1, 20));
            case "string": return of(HOUSE, new Range(0, 999));
            case "who": return of(HOUSE, new Range(0, 4), ROW, ANY, new Range(1, 12));
            case "finger": return of(HOUSE, ROW, ANY, new Range(1, 12));
            case "lashes": return of(HOUSE, HOUSE, ROW, ANY, new Range(1, 12));
            case "crack": return of(HOUSE, new Range(0, 30), new Range(0, 10), new Range(0, 1));
            case "drawn": return of(new Range(0, 60), new Range(1, 999999), new Range(0, 1));
            case "as": return of(HOUSE, new Range(0, 5));
            case "count": return of(new Range(0, 7));
            default: return of(ANY);
        }
    }

    private static Range[] of(Range... ranges) {
        return ranges;
    }

    private static long call(TopStreet x, String name, int... a) {
        switch (name) {
            case "row": return x.row(a[0], a[1], a[2]);
            case "set": return x.set(a[0], a[1], a[2]);
            case "copy": return x.copy(a[0], a[1], a[2], a[3], a[4]);
            case "drop": return x.drop(a[0]);
            case "feed": return x.feed(a[0]);
            case "hours": return x.hours(a[0]);
            case "lash": return x.lash(a[0]);
            case "touch": return x.touch(a[0], a[1]);
            case "putUp": return x.putUp(a[0]);
            case "house": return x.house(a[0], a[1]);
            case "stand": return x.stand(a[0]);
            case "ahead": return x.ahead(a[0], a[1]);
            case "when": return x.when(a[0], a[1]);
            case "first": return x.first(a[0]);
            case "left": return x.left(a[0]);
            case "round": return x.round(a[0], a[1], a[2]);
            case "walls": return x.walls(a[0], a[1]);
            case "steady": return x.steady(a[0], a[1]);
            case "boys": return x.boys(a[0], a[1]);
            case "string": return x.string(a[0], a[1]);
            case "who": return x.who(a[0], a[1], a[2], a[3], a[4]);
            case "finger": return x.finger(a[0], a[1], a[2], a[3]);
            case "lashes": return x.lashes(a[0], a[1], a[2], a[3], a[4]);
            case "crack": return x.crack(a[0], a[1], a[2], a[3]);
            case "drawn": return x.drawn(a[0], a[1], a[2]);
            case "image": return x.image(a[0]);
            case "restore": return x.restore(a[0]);
            case "kind": return x.kind(a[0]);
            case "as": return x.as(a[0], a[1]);
            case "ask": return x.ask(a[0], a[1]);
            case "trace": return x.trace(a[0]);
            case "count": return x.count(a[0]);
            default: throw new IllegalArgumentException(name);
        }
    }

    /** A street of four houses that something was done with, and a finding, a fault and a tape not read yet. */
    private static TopStreet lived() {
        TopStreet x = new TopStreet();
        Due.feed(x, "t9,9;k9,4;w5,5;");
        x.street();
        x.image(0);
        Due.feed(x, "t31");
        x.street();
        Due.feed(x, "t5,12;w40,1;c20,3;w0,2;p30,1;");
        x.street();
        x.touch(2, 1);
        x.hours(1);
        x.lash(0);
        Due.row(x, 0, 9, 8, 7, 6, 5);
        x.row(1, 1, 40);
        x.row(7, 0, 3);
        x.set(7, 1, 4);
        Due.feed(x, "t1,4");
        x.as(0, 5);
        x.ask(1, 0);
        return x;
    }

    private static String told(String name, int[] a) {
        StringBuilder s = new StringBuilder(name).append('(');
        for (int i = 0; i < a.length; i++) {
            s.append(i == 0 ? "" : ", ").append(a[i]);
        }
        return s.append(')').toString();
    }

    /** Numbers that each call takes. */
    private static int[] taken(String name) {
        Range[] ranges = ranges(name);
        int[] a = new int[ranges.length];
        for (int i = 0; i < a.length; i++) {
            a[i] = Math.max(ranges[i].least, Math.min(ranges[i].most, 1));
        }
        return a;
    }

    private static void takesItsRanges(String name) {
        Range[] ranges = ranges(name);
        for (int i = 0; i < ranges.length; i++) {
            takes(name, i, ranges[i].least, true);
            takes(name, i, ranges[i].most, true);
            if (ranges[i].least != MIN) {
                takes(name, i, MIN, false);
                takes(name, i, ranges[i].least - 1, false);
            }
            if (ranges[i].most != MAX) {
                takes(name, i, MAX, false);
                takes(name, i, ranges[i].most + 1, false);
            }
        }
    }

    private static void takes(String name, int i, int v, boolean good) {
        int[] a = taken(name);
        a[i] = v;
        TopStreet x = lived();
        boolean bad = call(x, name, a) == BAD;
        Due.is(told(name, a) + " is BAD", good ? 0 : 1, bad ? 1 : 0);
        if (!good) {
            unchanged(told(name, a), x);
        }
    }

    private static void unchanged(String what, TopStreet x) {
        Due.is(what + " changes nothing", 1, Seen.allOf(x).equals(Seen.allOf(lived())) ? 1 : 0);
    }

    /** No street: STATE where the document puts it ahead of BAD; else there is no such house or wall. */
    private static void needsAStreet(String name) {
        int due;
        switch (name) {
            case "row":
            case "set":
            case "copy":
            case "drop":
            case "feed":
            case "trace":
            case "count": return;
            case "hours":
            case "stand":
            case "first":
            case "left":
            case "walls":
            case "steady":
            case "boys":
            case "drawn": due = STATE; break;
            case "image":
            case "restore": due = BAD; break;
            default: due = BAD;
        }
        int[] a = taken(name);
        int ofGood = name.equals("image") || name.equals("restore") ? STATE : due;
        Due.is("no street, " + told(name, a), ofGood, call(new TopStreet(), name, a));
        for (int i = 0; i < a.length; i++) {
            a[i] = MAX;
            Due.is("no street, " + told(name, a), due, call(new TopStreet(), name, a));
            a[i] = MIN;
            Due.is("no street, " + told(name, a), due, call(new TopStreet(), name, a));
        }
    }

    private static void answers(long due, String name, int... a) {
        TopStreet x = lived();
        Due.is(told(name, a), due, call(x, name, a));
        unchanged(told(name, a), x);
    }

    private static void refusedByState() {
        answers(STATE, "lash", 2);
        answers(STATE, "touch", 2, 1);
        answers(STATE, "touch", 0, 0);
        answers(STATE, "putUp", 0);
        answers(STATE, "restore", 1);
        answers(STATE, "lashes", 0, 2, 0, 0, 1);
        answers(STATE, "lashes", 0, 2, 5, -1, 1);
        answers(STATE, "lashes", 0, 2, 0, 9, 1);
        answers(BAD, "lashes", 0, 2, 8, 0, 1);
        answers(BAD, "lashes", 0, 2, 5, 0, 13);
        answers(BAD, "lashes", 4, 2, 0, 0, 1);
        TopStreet x = new TopStreet();
        Due.is("undo() of a new one", STATE, x.undo());
        x.image(0);
        x.restore(0);
        x.hours(1);
        Due.is("a new one all the same", 1, Seen.allOf(x).equals(Seen.allOf(new TopStreet())) ? 1 : 0);
    }

    private static TopStreet late() {
        TopStreet x = Due.street("t1,0;k99,1;w3,1;");
        for (int i = 0; i < 41; i++) {
            x.hours(24);
        }
        x.hours(14);
        return x;
    }

    private static TopStreet told100() {
        TopStreet x = lived();
        for (int i = 5; i <= 100; i++) {
            Due.is("feed", i, x.feed(';'));
        }
        return x;
    }

    private static void refusedAsFull() {
        TopStreet x = late();
        Due.is("hours(2) at 998", FULL, x.hours(2));
        Due.is("hours(24) at 998", FULL, x.hours(24));
        Due.is("hours(25) at 998, BAD ahead of FULL", BAD, x.hours(25));
        Due.is("hours(0) at 998", BAD, x.hours(0));
        Due.is("it changes nothing", 1, Seen.allOf(x).equals(Seen.allOf(late())) ? 1 : 0);
        x = late();
        Due.is("hours(1) at 998", 1, x.hours(1));
        Due.is("HOUR", 999, x.count(2));
        x = told100();
        Due.is("feed of the 101st", FULL, x.feed('5'));
        Due.is("feed(-1), BAD ahead of FULL", BAD, x.feed(-1));
        Due.is("it changes nothing", 1, Seen.allOf(x).equals(Seen.allOf(told100())) ? 1 : 0);
    }

    private static void found(int number, String name, int... a) {
        TopStreet x = lived();
        Due.is(told(name, a), -1000010 - number, call(x, name, a));
        Due.is("status() behind " + told(name, a), number, x.status());
        TopStreet y = lived();
        y.drop(5);
        x.drop(5);
        Due.is(told(name, a) + " changes nothing", 1, Seen.allOf(x).equals(Seen.allOf(y)) ? 1 : 0);
    }

    /** Rows 0, 1 and 7 are there: ints 5, shorts 40, bytes 3. */
    private static void foundChangesNothing() {
        found(4, "row", 0, 2, -1);
        found(4, "row", 5, 0, MIN);
        found(1, "set", 5, 0, 1);
        found(1, "set", 5, -1, 1);
        found(2, "set", 0, 5, 1);
        found(2, "set", 1, 40, 1);
        found(2, "set", 7, -1, 1);
        found(1, "copy", 0, 0, 5, 0, 1);
        found(1, "copy", 5, 0, 0, 0, 1);
        found(1, "copy", 5, -1, 7, 9, 1);
        found(1, "copy", 5, 0, 6, 0, 0);
        found(5, "copy", 0, 0, 1, 0, 1);
        found(5, "copy", 7, -1, 1, 41, -1);
        found(2, "copy", 0, 0, 0, 1, 5);
        found(2, "copy", 1, 39, 1, 0, 2);
        found(2, "copy", 0, 0, 0, 0, -1);
        found(1, "drop", 5);
        found(3, "as", 0, 2);
        found(3, "as", 3, 5);
        found(1, "who", 0, 0, 5, -1, 1);
        found(2, "who", 0, 0, 0, -1, 1);
        found(2, "who", 0, 4, 1, 29, 12);
        found(1, "finger", 0, 5, -1, 1);
        found(2, "finger", 0, 0, 5, 1);
        found(2, "finger", 0, 1, 29, 12);
        found(1, "lashes", 0, 0, 5, -1, 1);
        found(2, "lashes", 0, 0, 0, -1, 1);
        found(2, "lashes", 0, 0, 1, 29, 12);
        Due.is("copy(5, .., 8), BAD ahead of NULL", BAD, lived().copy(5, 0, 8, 0, 0));
        Due.is("row(8, .., -1), BAD ahead of SIZE", BAD, lived().row(8, 0, -1));
    }

    private static void foretold(String name, int... a) {
        TopStreet x = lived();
        TopStreet y = lived();
        long answer = call(x, name, a);
        Due.is(told(name, a) + " is refused", 0, answer <= BAD ? 1 : 0);
        boolean heard = name.equals("who") || name.equals("finger") || name.equals("lashes");
        Due.is("status() behind " + told(name, a), heard ? 0 : 3, x.status());
        x.row(5, 0, 0);
        y.row(5, 0, 0);
        Due.is(told(name, a) + " changes nothing", 1, Seen.allOf(x).equals(Seen.allOf(y)) ? 1 : 0);
    }

    private static void foretoldChangesNothing() {
        foretold("ahead", 1, 60);
        foretold("when", 1, 0);
        foretold("when", 3, 1);
        foretold("first", 0);
        foretold("left", 60);
        foretold("round", 3, 7, -1);
        foretold("walls", 60, 0);
        foretold("steady", 60, 0);
        foretold("boys", 4, 20);
        foretold("string", 1, 999);
        for (int which = 0; which < 5; which++) {
            foretold("who", 1, which, 1, 28, 12);
        }
        foretold("finger", 1, 1, 28, 12);
        foretold("lashes", 1, 0, 1, 28, 12);
        foretold("crack", 3, 30, 5, 0);
        foretold("drawn", 60, 7, 1);
        foretold("house", 1, 4);
        foretold("stand", 3);
        foretold("kind", 1);
        foretold("trace", 1);
        foretold("count", 6);
    }

    /** A street that cannot be read leaves all but the tape and fault(). */
    private static void faultChangesNothing() {
        TopStreet x = lived();
        for (char c : ";s1,1;x".toCharArray()) {
            x.feed(c);
        }
        Due.is("street() of a faulty one", -1000100 - 10, x.street());
        Due.is("fault()", 1, x.fault());
        TopStreet y = lived();
        y.street();
        Due.is("it changes nothing else", 1, Seen.allOf(x).equals(Seen.allOf(y)) ? 1 : 0);
    }
}
