/** Promises 6 to 9: the tape, streets and their faults, undoing. */
public final class ToldTest {
    private static final int BAD = TopStreet.BAD, STATE = TopStreet.STATE, FULL = TopStreet.FULL;

    public static void main(String[] args) {
        promise6Feed();
        promise7Street();
        promise7TheEnd();
        promise7StreetInPlaceOfOne();
        promise7FaultsChangeNothing();
        promise8Fault();
        promise9Undo();
        promise9TwentyFour();
        Due.end("ToldTest");
    }

    private static void promise6Feed() {
        TopStreet x = new TopStreet();
        Due.is("feed(-1)", BAD, x.feed(-1));
        Due.is("feed(256)", BAD, x.feed(256));
        for (int i = 1; i <= 100; i++) {
            Due.is("feed", i, x.feed(i * 2 + 50));
        }
        Due.is("feed of the 101st", FULL, x.feed(97));
        Due.is("feed(256), BAD ahead of FULL", BAD, x.feed(256));
        Due.is("count(7)", 100, x.count(7));
        x.street();
        Due.is("the tape is empty behind a fault", 0, x.count(7));
        Due.is("feed(0)", 1, x.feed(0));
        Due.is("feed(255)", 2, x.feed(255));
        Due.is("a byte that is no token", -1000100, x.street());
    }

    private static void fault(String text, int place, int number) {
        TopStreet x = new TopStreet();
        Due.feed(x, text);
        Due.is("street() of " + text, -1000100 - place, x.street());
        Due.is("fault() of " + text, number, x.fault());
        Due.is("count(7) of " + text, 0, x.count(7));
        Due.is("count(1) of " + text, 0, x.count(1));
    }

    private static void good(String text, int houses) {
        TopStreet x = new TopStreet();
        Due.feed(x, text);
        Due.is("street() of " + text, houses, x.street());
        Due.is("fault() of " + text, 0, x.fault());
        Due.is("count(7) of " + text, 0, x.count(7));
        Due.is("count(1) of " + text, houses, x.count(1));
    }

    private static void promise7Street() {
        good("t1,0;w0,1;", 1);
        good("t30,40;w99,9;", 1);
        good("t01,00;k00,01;p9,09;", 2);
        good("t1,0;w1,1;c1,1;s1,1;p1,1;k1,1;w1,1;w1,1;w1,1;", 8);
        fault("", 0, 1);
        fault("w", 0, 1);
        fault("T", 0, 1);
        fault(" t1,0;w0,1;", 0, 1);
        fault("t", 1, 1);
        fault("tt", 1, 1);
        fault("t0,0;w0,1;", 1, 2);
        fault("t31,0;w0,1;", 1, 2);
        fault("t100,0;w0,1;", 1, 1);
        fault("t001,0;w0,1;", 1, 1);
        fault("t99", 1, 2);
        fault("t1", 2, 1);
        fault("t1;", 2, 1);
        fault("t1,", 3, 1);
        fault("t1,x", 3, 1);
        fault("t1,41;", 3, 2);
        fault("t1,400;", 3, 1);
        fault("t1,40,", 5, 1);
        fault("t1,0;", 5, 1);
        fault("t1,0;t1,0;", 5, 1);
        fault("t1,0;x1,1;", 5, 1);
        fault("t1,0;,", 5, 1);
        fault("t1,0;7", 5, 1);
        fault("t1,0;w", 6, 1);
        fault("t1,0;w,", 6, 1);
        fault("t1,0;w100,1;", 6, 1);
        fault("t1,0;w99;", 8, 1);
        fault("t1,0;w99,", 9, 1);
        fault("t1,0;w99,0;", 9, 2);
        fault("t1,0;w99,10;", 9, 2);
        fault("t1,0;w99,100;", 9, 1);
        fault("t1,0;w99,9", 10, 1);
        fault("t1,0;w99,9,", 10, 1);
        fault("t1,0;w1,1; ", 10, 1);
        fault("t1,0;w1,1;w", 11, 1);
        String eight = "t1,0;w1,1;w1,1;w1,1;w1,1;w1,1;w1,1;w1,1;w1,1;";
        fault(eight + "w1,1;", 45, 3);
        fault(eight + "k", 45, 3);
        fault(eight + "x", 45, 1);
        fault(eight + "t", 45, 1);
        fault(eight + "5", 45, 1);
        fault("t1,0;w1,0;w1,1;w1,1;w1,1;w1,1;w1,1;w1,1;w1,1;w1,1;", 8, 2);
    }

    /** What an earlier text left behind the end is not read. */
    private static void promise7TheEnd() {
        String[] shorter = {"t1", "t12", "t12,3", "t12,34", "t12,34;", "t12,34;w", "t12,34;w5", "t12,34;w56,7"};
        for (String text : shorter) {
            TopStreet x = Due.street("t12,34;w56,7;k8,9;");
            Due.feed(x, text);
            Due.is("street() of " + text, -1000100 - text.length(), x.street());
            Due.is("fault() of " + text, 1, x.fault());
        }
        TopStreet x = Due.street("t12,34;w56,7;k8,9;");
        Due.feed(x, "t12,34;w56,7;");
        Due.is("street()", 1, x.street());
    }

    private static void promise7StreetInPlaceOfOne() {
        TopStreet x = Due.street("t2,5;w9,1;w9,2;w9,3;");
        x.touch(1, 1);
        x.hours(2);
        x.image(0);
        x.row(4, 1, 3);
        x.ask(0, 0);
        Due.feed(x, "t7,9;s8,4;c0,2;");
        Due.is("street()", 2, x.street());
        Due.is("HOUR", 0, x.count(2));
        Due.is("WALLS", 0, x.count(5));
        Due.is("ACTS", 0, x.count(6));
        Due.is("undo()", STATE, x.undo());
        Due.is("LASH", 7, x.stand(4));
        Due.is("LEAN", 9, x.stand(5));
        Due.is("kind(0)", 3, x.kind(0));
        Due.is("house(0, 0)", 8, x.house(0, 0));
        Due.is("house(0, 1)", 4, x.house(0, 1));
        Due.is("SPIN 0 is FALLEN", 1, x.house(1, 2));
        Due.is("house(2, 0)", BAD, x.house(2, 0));
        Due.is("rows stay", 1, x.count(0));
        Due.is("images stay", 1, x.restore(0));
        Due.is("the one before", 3, x.count(1));
        Due.is("its HOUR", 2, x.count(2));
    }

    private static void promise7FaultsChangeNothing() {
        TopStreet x = Due.street("t2,5;w9,1;w9,2;w9,3;");
        x.touch(1, 1);
        x.hours(2);
        x.drop(0);
        x.ask(0, 1);
        Due.feed(x, "t7,9;s8,4;c0,2;x");
        Due.is("street()", -1000115, x.street());
        Due.is("HOUR", 2, x.count(2));
        Due.is("WALLS", 2, x.count(5));
        Due.is("ACTS", 3, x.count(6));
        Due.is("LASH", 2, x.stand(4));
        Due.is("LEAN", 5, x.stand(5));
        Due.is("count(1)", 3, x.count(1));
        Due.is("kind(0)", 1, x.kind(0));
        Due.is("house(0, 1)", 1, x.house(0, 1));
        Due.is("status()", 1, x.status());
        Due.is("trace(0)", 21, x.trace(0));
        Due.is("undo()", 2, x.undo());
        Due.is("house(2, 0)", 6, x.house(2, 0));
    }

    private static void promise8Fault() {
        TopStreet x = new TopStreet();
        Due.is("fault() before one", 0, x.fault());
        Due.feed(x, "t0");
        x.street();
        Due.is("fault()", 2, x.fault());
        Due.feed(x, "t1,0;w1,1;");
        Due.is("street()", 1, x.street());
        Due.is("fault() stays behind a street", 2, x.fault());
        Due.is("street() of nothing", -1000100, x.street());
        Due.is("fault()", 1, x.fault());
    }

    private static void promise9Undo() {
        TopStreet x = new TopStreet();
        Due.is("undo() of a new one", STATE, x.undo());
        x = Due.street("t5,3;w20,2;w99,1;w0,1;");
        Due.is("undo() at first", STATE, x.undo());
        x.lash(0);
        x.touch(0, 1);
        x.hours(2);
        x.putUp(2);
        x.lash(1);
        Due.is("ACTS", 6, x.count(6));
        Due.is("undo() of a lash", 5, x.undo());
        Due.is("undo() of putting up", 4, x.undo());
        Due.is("it is FALLEN", 1, x.house(2, 2));
        Due.is("HOUR", 2, x.count(2));
        Due.is("undo() of an hour", 3, x.undo());
        Due.is("HOUR", 1, x.count(2));
        // 25 and 99: 23 and 98, of 75 more a quarter is 18
        Due.is("SPIN", 41, x.house(0, 0));
        Due.is("SPIN", 80, x.house(1, 0));
        Due.is("undo() of an hour", 2, x.undo());
        Due.is("SPIN", 25, x.house(0, 0));
        Due.is("SPIN", 99, x.house(1, 0));
        Due.is("WALLS", 1, x.count(5));
        Due.is("undo() of a touch", 1, x.undo());
        Due.is("WALLS", 0, x.count(5));
        Due.is("undo() of a lash", 0, x.undo());
        Due.is("SPIN", 20, x.house(0, 0));
        Due.is("undo()", STATE, x.undo());
    }

    private static void promise9TwentyFour() {
        TopStreet x = Due.street("t1,0;w99,1;w40,1;");
        for (int i = 1; i <= 30; i++) {
            x.lash(0);
            Due.is("acts by which nothing becomes another are kept", Math.min(i, 24), x.count(6));
        }
        for (int i = 0; i < 20; i++) {
            x.lash(1);
        }
        Due.is("ACTS", 24, x.count(6));
        for (int i = 23; i >= 0; i--) {
            Due.is("undo()", i, x.undo());
            Due.is("SPIN", Math.max(40, 36 + i), x.house(1, 0));
        }
        Due.is("undo()", STATE, x.undo());
        x.hours(24);
        x.hours(2);
        for (int i = 0; i < 24; i++) {
            x.undo();
        }
        Due.is("HOUR: two acts were forgotten", 2, x.count(2));
        Due.is("undo()", STATE, x.undo());
    }
}
