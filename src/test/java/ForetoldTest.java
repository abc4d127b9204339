/** Promises 16 to 24: what comes, the boys' rounds and turns, walls, steadying, string. */
public final class ForetoldTest {
    private static final int NONE = TopStreet.NONE, BAD = TopStreet.BAD, STATE = TopStreet.STATE;

    public static void main(String[] args) {
        promise16Ahead();
        promise17When();
        promise18First();
        promise19Left();
        promise20Round();
        promise21Walls();
        promise22Steady();
        promise23Boys();
        promise24String();
        nothingChanges();
        Due.end("ForetoldTest");
    }

    private static void promise16Ahead() {
        Due.is("ahead(0, 0), no street", BAD, new TopStreet().ahead(0, 0));
        TopStreet x = Due.street("t1,5;w6,3;w30,2;w99,1;");
        Due.is("ahead(0, 0)", 6, x.ahead(0, 0));
        Due.is("ahead(0, 1)", 3, x.ahead(0, 1));
        Due.is("ahead(0, 2)", 0, x.ahead(0, 2));
        Due.is("ahead(1, 1)", 28, x.ahead(1, 1));
        Due.is("ahead(1, 2)", 21, x.ahead(1, 2));
        Due.is("ahead(2, 11)", 88, x.ahead(2, 11));
        // the second has 21 behind 2 hours, 1 behind 12, and goes over in the 13th
        Due.is("ahead(2, 13)", 81, x.ahead(2, 13));
        Due.is("ahead(2, 60)", 34, x.ahead(2, 60));
        Due.is("ahead(0, -1)", BAD, x.ahead(0, -1));
        Due.is("ahead(0, 61)", BAD, x.ahead(0, 61));
        Due.is("ahead(3, 0)", BAD, x.ahead(3, 0));
        Due.is("ahead(-1, 0)", BAD, x.ahead(-1, 0));
    }

    private static void promise17When() {
        Due.is("when(0, 0), no street", BAD, new TopStreet().when(0, 0));
        TopStreet x = Due.street("t1,5;w0,3;w30,2;w60,1;w4,1;w61,1;k50,1;");
        Due.is("when(0, 0)", 0, x.when(0, 0));
        Due.is("when(0, 1)", NONE, x.when(0, 1));
        Due.is("when(1, 0)", 15, x.when(1, 0));
        Due.is("when(1, 1): 4 behind 13", 13, x.when(1, 1));
        // 60, 45 behind 15 hours, 40 by the fall: 40 hours more
        Due.is("when(2, 0)", 55, x.when(2, 0));
        Due.is("when(2, 1)", 51, x.when(2, 1));
        Due.is("when(3, 1)", 0, x.when(3, 1));
        // 61, 5 less by the fall of the one before in the fourth hour
        Due.is("when(4, 0)", 56, x.when(4, 0));
        // 50 stays until the fall in the 56th takes 5
        Due.is("when(5, 0)", NONE, x.when(5, 0));
        Due.is("when of one of 60", 60, Due.street("t1,5;w60,1;").when(0, 0));
        Due.is("when of one of 61", NONE, Due.street("t1,5;w61,1;").when(0, 0));
        Due.is("when(0, 1): leaning never comes", NONE, Due.street("t1,1;w5,1;").when(0, 1));
        Due.is("when(0, 2)", BAD, x.when(0, 2));
        Due.is("when(0, -1)", BAD, x.when(0, -1));
        Due.is("when(6, 0)", BAD, x.when(6, 0));
    }

    private static void promise18First() {
        Due.is("first(7), no street", STATE, new TopStreet().first(7));
        TopStreet x = Due.street("t1,5;w0,3;w30,2;w9,1;w9,1;");
        Due.is("first(0)", 2, x.first(0));
        Due.is("first(1)", 9, x.first(1));
        Due.is("first(2)", BAD, x.first(2));
        Due.is("first(-1)", BAD, x.first(-1));
        x = Due.street("t1,0;w60,1;");
        Due.is("first(0) of 60", 0, x.first(0));
        Due.is("first(1) of 60", 60, x.first(1));
        x = Due.street("t1,0;w9,1;w1,1;");
        Due.is("first(0) of 1", 1, x.first(0));
        Due.is("first(1) of 1", 1, x.first(1));
        x = Due.street("t1,0;w61,1;w0,1;");
        Due.is("first(0) of 61", NONE, x.first(0));
        Due.is("first(1) of 61", NONE, x.first(1));
    }

    private static void promise19Left() {
        Due.is("left(99), no street", STATE, new TopStreet().left(99));
        TopStreet x = Due.street("t1,0;w0,3;w3,2;w60,1;w61,1;");
        Due.is("left(0)", 14, x.left(0));
        Due.is("left(1)", 14, x.left(1));
        Due.is("left(2)", 12, x.left(2));
        Due.is("left(59)", 12, x.left(59));
        Due.is("left(60)", 8, x.left(60));
        Due.is("left(61)", BAD, x.left(61));
        Due.is("left(-1)", BAD, x.left(-1));
    }

    private static void promise20Round() {
        Due.is("round(0, 1, -1), no street", BAD, new TopStreet().round(0, 1, -1));
        TopStreet x = Due.street("t5,3;w10,1;");
        Due.round(x, 0, 1, 18, 1, 1);
        x = Due.street("t9,0;w3,3;w3,3;");
        Due.round(x, 0, 1, 9, 1);
        Due.round(x, 1, 1, 9, 0);
        // going up and staying there leaves 8, 16, 18; any other way less
        x = Due.street("t9,0;w10,1;w4,3;w20,1;");
        Due.round(x, 0, 3, 8, 2, 1);
        // the middle one is FALLEN: a lash there does nothing
        x = Due.street("t9,0;w8,8;w0,1;w5,1;");
        Due.round(x, 1, 2, 4, 0);
        Due.round(x, 0, 2, 4, 1);
        Due.round(Due.street("t9,0;w0,3;w0,3;"), 1, 0, 0, 0, 1);
        Due.round(Due.street("t9,0;w0,3;w0,3;"), 1, 0, 0, 0);
        // the first is out of reach, and has 1 behind the hour
        Due.round(Due.street("t9,0;k2,1;k99,1;k99,1;"), 2, 3, 1, 0);
        Due.round(Due.street("t9,0;w1,1;w5,1;"), 0, 2, 4, 1);
        Due.is("round(-1, ..)", BAD, x.round(-1, 1, -1));
        Due.is("round(3, ..)", BAD, x.round(3, 1, -1));
        Due.is("round(.., 0, ..)", BAD, x.round(0, 0, -1));
        Due.is("round(.., 8, ..)", BAD, x.round(0, 8, -1));
        Due.is("round(.., -3)", BAD, x.round(0, 1, -3));
        Due.is("round(.., min)", BAD, x.round(0, 1, Integer.MIN_VALUE));
        Due.is("round(.., max)", NONE, x.round(0, 7, Integer.MAX_VALUE));
    }

    private static void promise21Walls() {
        Due.is("walls(0, 9), no street", STATE, new TopStreet().walls(0, 9));
        TopStreet x = Due.street("t1,0;w2,1;w20,1;");
        Due.is("walls(3, 0)", 1, x.walls(3, 0));
        Due.is("walls(3, 1)", 2, x.walls(3, 1));
        Due.is("walls(1, 0): fewest", 0, x.walls(1, 0));
        x.touch(0, 1);
        Due.is("others do not touch", 0, x.walls(1, 0));
        // the one in the middle can be had from either side: of these the least
        x = Due.street("t1,0;w30,1;w2,1;w30,1;");
        Due.is("walls(3, 0)", 1, x.walls(3, 0));
        Due.is("walls(3, 1)", 3, x.walls(3, 1));
        Due.is("walls(60, 1)", 0, x.walls(60, 1));
        Due.is("walls(0, 0)", BAD, x.walls(0, 0));
        Due.is("walls(61, 0)", BAD, x.walls(61, 0));
        Due.is("walls(1, 2)", BAD, x.walls(1, 2));
        Due.is("walls(1, -1)", BAD, x.walls(1, -1));
        Due.is("walls of one house", 0, Due.street("t1,0;w9,1;").walls(3, 0));
    }

    private static void promise22Steady() {
        Due.is("steady(0, 9), no street", STATE, new TopStreet().steady(0, 9));
        TopStreet x = Due.street("t1,9;w5,3;w9,1;");
        Due.is("steady(3, 0)", 0, x.steady(3, 0));
        Due.is("steady(3, 1)", 2, x.steady(3, 1));
        x = Due.street("t1,0;w0,1;w9,1;w3,1;w3,1;");
        Due.is("of several the first", 2, x.steady(3, 0));
        Due.is("steady(3, 1)", 2, x.steady(3, 1));
        Due.is("steady(1, 0): a FALLEN one is none", 1, x.steady(1, 0));
        Due.is("steady(60, 1)", 1, x.steady(60, 1));
        Due.is("steady(0, 0)", BAD, x.steady(0, 0));
        Due.is("steady(61, 0)", BAD, x.steady(61, 0));
        Due.is("steady(1, 2)", BAD, x.steady(1, 2));
        Due.is("steady(1, -1)", BAD, x.steady(1, -1));
        x = Due.street("t1,0;w0,1;w0,1;");
        Due.is("steady(3, 0), none stands", NONE, x.steady(3, 0));
        Due.is("steady(3, 1), none stands", NONE, x.steady(3, 1));
        x = Due.street("t1,0;w9,9;");
        Due.is("steady(60, 0), one that falls all the same", 0, x.steady(60, 0));
        Due.is("steady(60, 1), one that falls all the same", 0, x.steady(60, 1));
        Due.is("steady(1, 0), one of 1", 0, Due.street("t1,0;w1,9;").steady(1, 0));
    }

    private static void promise23Boys() {
        Due.is("boys(9, 9), no street", STATE, new TopStreet().boys(9, 9));
        TopStreet x = Due.street("t5,0;w10,1;w20,1;");
        Due.is("boys(0, 1)", -10, x.boys(0, 1));
        Due.is("boys(1, 1)", -5, x.boys(1, 1));
        Due.is("boys(2, 1)", -10, x.boys(2, 1));
        Due.is("boys(3, 1)", -5, x.boys(3, 1));
        Due.is("boys(4, 1)", -10, x.boys(4, 1));
        Due.is("boys(0, 20): 0 and 0", 0, x.boys(0, 20));
        Due.is("boys(1, 14): 1 less 6", -5, x.boys(1, 14));
        // it is better to let it fall on the other's
        Due.is("none is lashed", -9, Due.street("t1,20;w1,1;w30,1;").boys(1, 1));
        x = Due.street("t5,0;w1,1;w0,1;w4,1;");
        Due.is("boys(0, 3)", 1, x.boys(0, 3));
        Due.is("boys(1, 3): the third", 6, x.boys(1, 3));
        Due.is("boys(3, 3): the third twice", 11, x.boys(3, 3));
        x = Due.street("t5,0;w0,1;w1,1;w0,1;w4,1;w0,1;");
        Due.is("boys(1, 3)", -1, x.boys(1, 3));
        Due.is("boys(2, 3): the fourth", -6, x.boys(2, 3));
        Due.is("boys(4, 3): the fourth twice", -11, x.boys(4, 3));
        Due.is("one of 1 is lashed", 5, Due.street("t5,0;w1,1;").boys(1, 1));
        x = Due.street("t5,0;w10,1;w20,1;");
        Due.is("FALLEN ones are not", 0, Due.street("t9,0;w0,1;w0,1;").boys(4, 2));
        Due.is("boys(-1, 1)", BAD, x.boys(-1, 1));
        Due.is("boys(5, 1)", BAD, x.boys(5, 1));
        Due.is("boys(0, 0)", BAD, x.boys(0, 0));
        Due.is("boys(0, 21)", BAD, x.boys(0, 21));
    }

    private static void shares(TopStreet x, int n, int... due) {
        for (int h = 0; h < due.length; h++) {
            Due.is("string(" + h + ", " + n + ")", due[h], x.string(h, n));
        }
    }

    private static void promise24String() {
        Due.is("string(0, 0), no street", BAD, new TopStreet().string(0, 0));
        TopStreet x = Due.street("t1,0;w90,1;w95,1;w99,1;w0,1;w97,1;");
        shares(x, 0, 0, 0, 0, 0, 0);
        shares(x, 1, 1, 0, 0, 0, 0);
        shares(x, 10, 7, 2, 0, 0, 1);
        shares(x, 11, 7, 3, 0, 0, 1);
        shares(x, 15, 9, 4, 0, 0, 2);
        shares(x, 999, 600, 266, 0, 0, 133);
        shares(Due.street("t1,0;w99,1;w0,1;w98,1;w98,1;"), 5, 0, 0, 3, 2);
        shares(Due.street("t1,0;w99,1;w0,1;"), 5, 0, 0);
        shares(Due.street("t1,0;w1,1;w97,1;"), 10, 10, 0);
        Due.is("string(0, -1)", BAD, x.string(0, -1));
        Due.is("string(0, 1000)", BAD, x.string(0, 1000));
        Due.is("string(5, 1)", BAD, x.string(5, 1));
        Due.is("string(-1, 1)", BAD, x.string(-1, 1));
    }

    private static void nothingChanges() {
        TopStreet x = Due.street("t9,5;w30,1;c20,3;k60,1;w0,1;s9,4;");
        x.touch(0, 1);
        Due.row(x, 0, 5, 5);
        x.ahead(0, 9);
        x.when(1, 0);
        x.first(0);
        x.left(9);
        x.round(1, 5, -1);
        x.walls(9, 0);
        x.steady(9, 0);
        x.boys(4, 5);
        x.string(0, 100);
        x.who(0, 2, 0, 0, 2);
        x.finger(0, 0, 0, 2);
        x.lashes(0, 1, 0, 0, 2);
        x.crack(0, 9, 5, 0);
        x.drawn(9, 7, 0);
        x.image(0);
        int[] spins = {30, 20, 60, 0, 9};
        for (int h = 0; h < 5; h++) {
            Due.is("SPIN of " + h + " stays", spins[h], x.house(h, 0));
            Due.is("KIND of " + h + " stays", new int[] {1, 2, 5, 1, 3}[h], x.kind(h));
            Due.is("RUB of " + h + " stays", new int[] {1, 3, 1, 1, 4}[h], x.house(h, 1));
        }
        Due.is("WALLS stay", 1, x.count(5));
        Due.is("HOUR stays", 0, x.count(2));
        Due.is("ACTS stay", 1, x.count(6));
        Due.is("LASH stays", 9, x.stand(4));
    }
}
