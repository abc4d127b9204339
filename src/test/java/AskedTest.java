/** Promises 32 to 36: kinds, asks and their trace, counts. */
public final class AskedTest {
    private static final int NONE = TopStreet.NONE, BAD = TopStreet.BAD, KIND = -1000013;

    public static void main(String[] args) {
        promise32Kind();
        promise33As();
        promise34Ask();
        promise34Refusals();
        promise35Trace();
        promise36Count();
        Due.end("AskedTest");
    }

    private static TopStreet fiveKinds() {
        return Due.street("t3,5;w40,3;c22,2;s9,7;p60,1;k70,4;");
    }

    private static void promise32Kind() {
        Due.is("kind(0), no street", BAD, new TopStreet().kind(0));
        TopStreet x = fiveKinds();
        for (int h = 0; h < 5; h++) {
            Due.is("kind(" + h + ")", h + 1, x.kind(h));
        }
        Due.is("kind(5)", BAD, x.kind(5));
        Due.is("kind(-1)", BAD, x.kind(-1));
    }

    private static void promise33As() {
        Due.is("as(0, 0), no street", BAD, new TopStreet().as(0, 0));
        TopStreet x = fiveKinds();
        int[] are = {0b000011, 0b000111, 0b001011, 0b010001, 0b110001};
        for (int h = 0; h < 5; h++) {
            for (int kind = 0; kind <= 5; kind++) {
                boolean is = (are[h] >> kind & 1) == 1;
                Due.is("as(" + h + ", " + kind + ")", is ? h : KIND, x.as(h, kind));
                Due.is("status()", is ? 0 : 3, x.status());
            }
        }
        Due.is("as(0, 6)", BAD, x.as(0, 6));
        Due.is("as(0, -1)", BAD, x.as(0, -1));
        Due.is("as(5, 0)", BAD, x.as(5, 0));
        Due.is("as(-1, 0)", BAD, x.as(-1, 0));
    }

    private static void ask(TopStreet x, int one, int what, int answer, int... trace) {
        String of = "ask(" + one + ", " + what + ")";
        Due.is(of, answer, x.ask(one, what));
        for (int i = 0; i < 20; i++) {
            Due.is(of + ", trace(" + i + ")", i < trace.length ? trace[i] : NONE, x.trace(i));
        }
    }

    private static void promise34Ask() {
        TopStreet x = fiveKinds();
        ask(x, 0, 0, 43, 11, 10, 21, 20);
        ask(x, 1, 0, -48, 12, 11, 10, 24, 21, 20);
        ask(x, 2, 0, -982, 11, 10, 22, 21, 20);
        ask(x, 3, 0, -99, 13, 10);
        ask(x, 4, 0, -192, 14, 13, 10);
        ask(x, 0, 1, 40, 21, 20);
        ask(x, 1, 1, 46, 24, 21, 20);
        ask(x, 2, 1, -989, 22, 21, 20);
        ask(x, 3, 1, 102, 23, 20, 13, 10);
        ask(x, 4, 1, 196, 23, 20, 14, 13, 10);
        x.lash(1);
        ask(x, 1, 1, 52, 24, 21, 20);
    }

    private static void promise34Refusals() {
        Due.is("ask(0, 0), no street", BAD, new TopStreet().ask(0, 0));
        TopStreet x = fiveKinds();
        x.ask(3, 0);
        Due.is("ask(0, 2)", BAD, x.ask(0, 2));
        Due.is("ask(0, -1)", BAD, x.ask(0, -1));
        Due.is("ask(5, 0)", BAD, x.ask(5, 0));
        Due.is("ask(-1, 0)", BAD, x.ask(-1, 0));
        Due.is("the trace stays: trace(0)", 13, x.trace(0));
        Due.is("the trace stays: trace(1)", 10, x.trace(1));
    }

    private static void promise35Trace() {
        TopStreet x = fiveKinds();
        Due.is("trace(0) ahead of an ask", NONE, x.trace(0));
        x.ask(0, 1);
        Due.is("trace(-1)", NONE, x.trace(-1));
        Due.is("trace(min)", NONE, x.trace(Integer.MIN_VALUE));
        Due.is("trace(1)", 20, x.trace(1));
        Due.is("trace(2)", NONE, x.trace(2));
        Due.is("trace(16)", NONE, x.trace(16));
        Due.is("trace(max)", NONE, x.trace(Integer.MAX_VALUE));
    }

    private static void promise36Count() {
        TopStreet x = Due.street("t3,5;w40,3;c22,2;s0,7;p60,1;");
        x.row(0, 0, 0);
        x.row(5, 2, 9);
        x.row(5, 1, 9);
        x.touch(0, 1);
        x.touch(2, 1);
        x.hours(1);
        x.feed(1);
        x.feed(2);
        // 37 and 20, of 17 more a quarter is 4; 58 beside a FALLEN one
        int[] due = {2, 4, 1, 3, 33 + 24 + 58, 5, 3, 2};
        for (int what = 0; what < 8; what++) {
            Due.is("count(" + what + ")", due[what], x.count(what));
        }
        Due.is("count(8)", BAD, x.count(8));
        Due.is("count(-1)", BAD, x.count(-1));
    }
}
