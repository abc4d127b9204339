/** Promises 10 to 15: hours, lashes, walls, putting up, and what stands. */
public final class DoneTest {
    private static final int BAD = TopStreet.BAD, STATE = TopStreet.STATE, FULL = TopStreet.FULL;

    public static void main(String[] args) {
        promise10Losses();
        promise10Walls();
        promise10Falls();
        promise10Refusals();
        promise11Lash();
        promise12Touch();
        promise13PutUp();
        promise14House();
        promise15Stand();
        Due.end("DoneTest");
    }

    private static void promise10Losses() {
        TopStreet x = Due.street("t5,10;w20,3;c9,3;c10,3;s8,7;s8,1;p16,4;k50,2;k49,2;");
        Due.is("hours(1)", 255, x.hours(1));
        Due.spins("kinds", x, 17, 3, 7, 5, 7, 15, 50, 48);
        // a cracked one that loses more than it has comes to 0, and takes 10 of the next
        Due.is("hours(1)", 255 - 2 - 4 - 8 - 16, x.hours(1));
        Due.spins("kinds, once more", x, 14, 0, 0, 0, 0, 4, 50, 47);
        Due.is("HOUR", 2, x.count(2));
        Due.is("ACTS", 2, x.count(6));
        x = Due.street("t5,10;p30,9;p30,9;p30,9;k60,9;k40,9;");
        for (int w = 0; w < 4; w++) {
            x.touch(w, 1);
        }
        // losses 2, 3, 3, 0, 2; then 60 less 27 is 33: 8; then 52 less 38: 3
        Due.is("hours(1)", 31, x.hours(1));
        Due.spins("parishes", x, 28, 27, 35, 49, 41);
        Due.is("hours(24)", 0, x.hours(24));
        Due.is("ACTS", 24, x.count(6));
    }

    private static void promise10Walls() {
        TopStreet x = Due.street("t5,5;w40,1;w4,1;w4,1;w2,2;w9,1;");
        for (int w = 0; w < 4; w++) {
            x.touch(w, 1);
        }
        // 39 3 3 0 8: 9 go over wall 0, then 2 over wall 1; over walls 2 and 3 nothing; then 5 are lost
        Due.is("hours(1)", 23, x.hours(1));
        Due.spins("walls from 0 on", x, 30, 10, 5, 0, 3);
        x = Due.street("t5,5;w4,1;w4,1;w40,1;");
        x.touch(0, 1);
        x.touch(1, 1);
        Due.is("hours(1)", 7, x.hours(1));
        Due.spins("walls from 0 on, the other way", x, 3, 12, 30);
        x.touch(1, 0);
        x.hours(1);
        // 2 11 29: 2 go over wall 0
        Due.spins("a wall that touches no more", x, 4, 9, 29);
        x = Due.street("t5,5;w5,1;w8,1;w12,1;");
        x.touch(0, 1);
        x.touch(1, 1);
        x.hours(1);
        Due.spins("a quarter is cut", x, 4, 8, 10);
    }

    private static void promise10Falls() {
        TopStreet x = Due.street("t1,9;w3,3;w9,1;w5,1;w9,9;w20,1;");
        Due.is("a row that goes over", 16, x.hours(1));
        Due.spins("a row that goes over", x, 0, 0, 0, 0, 10);
        x = Due.street("t1,9;w0,1;w30,1;");
        Due.is("hours(1)", 2, x.hours(1));
        Due.spins("what is FALLEN falls on nobody", x, 0, 29);
        x = Due.street("t1,9;w30,1;w1,1;");
        Due.is("hours(1)", 1, x.hours(1));
        Due.spins("the one before is not fallen on", x, 29, 0);
        x = Due.street("t1,9;w1,1;w11,1;w1,1;");
        Due.is("hours(1)", 2, x.hours(1));
        Due.spins("it keeps 1", x, 0, 1, 0);
        x = Due.street("t1,9;w1,1;w0,1;w30,1;");
        Due.is("hours(1)", 4, x.hours(1));
        Due.spins("a FALLEN one does not fall in its turn", x, 0, 0, 29);
        x = Due.street("t1,0;w1,1;w9,1;");
        Due.is("hours(1)", 2, x.hours(1));
        Due.spins("LEAN 0", x, 0, 8);
    }

    private static void promise10Refusals() {
        TopStreet x = new TopStreet();
        Due.is("hours(0), no street", STATE, x.hours(0));
        x = Due.street("t1,0;k99,1;");
        Due.is("hours(0)", BAD, x.hours(0));
        Due.is("hours(25)", BAD, x.hours(25));
        Due.is("hours(-1)", BAD, x.hours(-1));
        Due.is("hours(max)", BAD, x.hours(Integer.MAX_VALUE));
        for (int i = 0; i < 41; i++) {
            Due.is("hours(24)", 1, x.hours(24));
        }
        Due.is("hours(16)", FULL, x.hours(16));
        Due.is("hours(25)", BAD, x.hours(25));
        Due.is("HOUR", 984, x.count(2));
        Due.is("hours(15)", 1, x.hours(15));
        Due.is("HOUR", 999, x.count(2));
        Due.is("hours(1)", FULL, x.hours(1));
        Due.is("foretold all the same", 99, x.ahead(0, 60));
        x.undo();
        Due.is("HOUR", 998, x.count(2));
        Due.is("hours(2)", FULL, x.hours(2));
        Due.is("hours(1)", 1, x.hours(1));
    }

    private static void promise11Lash() {
        TopStreet x = new TopStreet();
        Due.is("lash(0), no street", BAD, x.lash(0));
        x = Due.street("t30,0;w1,1;w0,1;w69,1;w70,1;");
        Due.is("lash(-1)", BAD, x.lash(-1));
        Due.is("lash(4)", BAD, x.lash(4));
        Due.is("lash of a FALLEN one", STATE, x.lash(1));
        Due.is("ACTS", 0, x.count(6));
        Due.is("lash(0)", 31, x.lash(0));
        Due.is("lash(2)", 99, x.lash(2));
        Due.is("lash(3)", 99, x.lash(3));
        Due.is("lash(3) again", 99, x.lash(3));
        Due.is("ACTS", 4, x.count(6));
        Due.spins("lashes", x, 31, 0, 99, 99);
    }

    private static void promise12Touch() {
        TopStreet x = new TopStreet();
        Due.is("touch(0, 1), no street", BAD, x.touch(0, 1));
        x = Due.street("t1,0;w1,1;w1,1;w1,1;");
        Due.is("touch(-1, 1)", BAD, x.touch(-1, 1));
        Due.is("touch(2, 1)", BAD, x.touch(2, 1));
        Due.is("touch(0, 2)", BAD, x.touch(0, 2));
        Due.is("touch(0, -1)", BAD, x.touch(0, -1));
        Due.is("touch(0, 0)", STATE, x.touch(0, 0));
        Due.is("touch(1, 1)", 2, x.touch(1, 1));
        Due.is("touch(1, 1) again", STATE, x.touch(1, 1));
        Due.is("touch(0, 1)", 3, x.touch(0, 1));
        Due.is("touch(1, 0)", 1, x.touch(1, 0));
        Due.is("ACTS", 3, x.count(6));
        Due.is("a street of one house has no wall", BAD, Due.street("t1,0;w1,1;").touch(0, 1));
    }

    private static void promise13PutUp() {
        TopStreet x = new TopStreet();
        Due.is("putUp(0), no street", BAD, x.putUp(0));
        x = Due.street("t1,0;w1,1;w0,1;w1,1;");
        Due.is("putUp(-1)", BAD, x.putUp(-1));
        Due.is("putUp(3)", BAD, x.putUp(3));
        Due.is("putUp(0)", STATE, x.putUp(0));
        Due.is("putUp(1)", 7, x.putUp(1));
        Due.is("SPIN", 50, x.house(1, 0));
        Due.is("putUp(1) again", STATE, x.putUp(1));
        Due.is("ACTS", 1, x.count(6));
        Due.is("hours(1)", 2, x.hours(1));
        Due.is("putUp(2)", 6, x.putUp(2));
    }

    private static void promise14House() {
        TopStreet x = new TopStreet();
        Due.is("house(0, 0), no street", BAD, x.house(0, 0));
        x = Due.street("t1,20;w19,3;c19,3;c20,3;s2,7;s8,1;p0,4;k50,2;k49,9;");
        x.touch(2, 1);
        x.touch(5, 1);
        x.touch(6, 1);
        int[][] due = {
            {19, 3, 0, 1, 3, 0},
            {19, 3, 0, 1, 6, 0},
            {20, 3, 0, 0, 3, 1},
            {2, 7, 0, 1, 3, 1},
            {8, 1, 0, 1, 1, 0},
            {0, 4, 1, 0, 0, 1},
            {50, 2, 0, 0, 0, 2},
            {49, 9, 0, 0, 2, 1}};
        for (int h = 0; h < 8; h++) {
            for (int what = 0; what < 6; what++) {
                Due.is("house(" + h + ", " + what + ")", due[h][what], x.house(h, what));
            }
        }
        Due.is("house(-1, 0)", BAD, x.house(-1, 0));
        Due.is("house(8, 0)", BAD, x.house(8, 0));
        Due.is("house(0, -1)", BAD, x.house(0, -1));
        Due.is("house(0, 6)", BAD, x.house(0, 6));
    }

    private static void promise15Stand() {
        TopStreet x = new TopStreet();
        Due.is("stand(9), no street", STATE, x.stand(9));
        x = Due.street("t4,20;w19,3;c20,3;s0,3;k7,1;");
        x.touch(1, 1);
        x.touch(2, 1);
        Due.is("stand(0)", 11, x.stand(0));
        Due.is("stand(1)", 9, x.stand(1));
        Due.is("stand(2)", 6, x.stand(2));
        Due.is("stand(3)", 46, x.stand(3));
        Due.is("stand(4)", 4, x.stand(4));
        Due.is("stand(5)", 20, x.stand(5));
        Due.is("stand(1), a FALLEN one and one of 1", 2, Due.street("t4,20;k20,1;w1,1;w0,1;").stand(1));
        Due.is("stand(6)", BAD, x.stand(6));
        Due.is("stand(-1)", BAD, x.stand(-1));
    }
}
