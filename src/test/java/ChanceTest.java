/** Promises 28 to 31: cracks, decades, images. */
public final class ChanceTest {
    private static final int BAD = TopStreet.BAD, STATE = TopStreet.STATE;

    public static void main(String[] args) {
        promise28Crack();
        promise28Refusals();
        promise29Drawn();
        promise30Image();
        promise31Restore();
        Due.end("ChanceTest");
    }

    private static void promise28Crack() {
        TopStreet x = Due.street("t1,0;w4,1;");
        Due.crack(x, 0, 0, 3, 1, 1);
        Due.crack(x, 0, 1, 3, 1, 1);
        Due.crack(x, 0, 2, 3, 7, 10);
        Due.crack(x, 0, 2, 4, 3, 5);
        Due.crack(x, 0, 3, 5, 1, 2);
        Due.crack(x, 0, 2, 0, 1, 1);
        Due.crack(x, 0, 2, 10, 0, 1);
        Due.crack(x, 0, 4, 3, 0, 1);
        Due.crack(x, 0, 30, 3, 0, 1);
        Due.crack(Due.street("t1,0;w1,1;"), 0, 0, 3, 7, 10);
        // it stands if the one before is FALLEN by its crack, and so does not fall on it
        Due.crack(Due.street("t1,9;w1,1;w9,1;"), 1, 1, 3, 3, 10);
        x = Due.street("t1,0;w0,1;w4,1;");
        Due.crack(x, 0, 0, 5, 0, 1);
        Due.crack(x, 1, 2, 5, 1, 2);
        // each of 7 must not be halved, or else it falls on the next, which then lacks 40
        x = Due.street("t1,40;w2,1;w9,1;w9,1;w9,1;w9,1;w9,1;w9,1;w9,1;");
        Due.crack(x, 7, 1, 5, 1, 2);
        Due.crack(x, 0, 1, 1, 9, 10);
        // falls if any of them is halved to 4 and gone in 4 hours: 9 of 10 to the eighth, by 10 to the eighth
        x = Due.street("t1,40;w9,1;w9,1;w9,1;w9,1;w9,1;w9,1;w9,1;w9,1;");
        Due.crack(x, 7, 4, 1, 43046721, 100000000);
        Due.crack(x, 7, 4, 2, 65536, 390625);
        Due.crack(x, 0, 4, 7, 3, 10);
        Due.crack(x, 7, 3, 9, 1, 1);
    }

    private static void promise28Refusals() {
        Due.is("crack, no street", BAD, new TopStreet().crack(0, 0, 0, 0));
        TopStreet x = Due.street("t1,0;w4,1;");
        Due.is("crack(-1)", BAD, x.crack(-1, 0, 0, 0));
        Due.is("crack(1)", BAD, x.crack(1, 0, 0, 0));
        Due.is("crack n -1", BAD, x.crack(0, -1, 0, 0));
        Due.is("crack n 31", BAD, x.crack(0, 31, 0, 0));
        Due.is("crack p -1", BAD, x.crack(0, 0, -1, 0));
        Due.is("crack p 11", BAD, x.crack(0, 0, 11, 0));
        Due.is("crack what 2", BAD, x.crack(0, 0, 0, 2));
        Due.is("crack what -1", BAD, x.crack(0, 0, 0, -1));
    }

    private static void drawn(TopStreet x, int n, int seed, int bits, int spin) {
        Due.is("drawn(" + n + ", " + seed + ", 0)", bits, x.drawn(n, seed, 0));
        Due.is("drawn(" + n + ", " + seed + ", 1)", spin, x.drawn(n, seed, 1));
    }

    /** By 1 X is 16807, 282475249, 1622650073, 984943658, 1144108930, then 470211272. */
    private static void promise29Drawn() {
        Due.is("drawn(-1, 0, 9), no street", STATE, new TopStreet().drawn(-1, 0, 9));
        TopStreet x = Due.street("t10,0;w50,1;");
        drawn(x, 0, 1, 1, 50);
        drawn(x, 3, 1, 1, 47);
        drawn(x, 4, 1, 1, 56);
        drawn(x, 5, 1, 1, 65);
        drawn(x, 6, 1, 1, 74);
        x = Due.street("t10,0;w0,1;");
        drawn(x, 4, 1, 0, 0);
        drawn(x, 5, 1, 1, 49);
        drawn(x, 6, 1, 1, 58);
        // by 5 it is 84035, by 10 168070, by 2 33614
        drawn(Due.street("t10,0;w1,1;"), 1, 5, 0, 0);
        drawn(Due.street("t10,0;w0,1;"), 1, 5, 1, 49);
        drawn(Due.street("t10,0;w1,1;"), 1, 10, 1, 10);
        drawn(Due.street("t10,0;w0,1;"), 1, 10, 1, 49);
        drawn(Due.street("t10,0;w0,1;"), 1, 2, 0, 0);
        drawn(Due.street("t10,0;w95,1;"), 1, 2, 1, 98);
        // by 3: 1, 1, 2, 2, 1, 2
        x = Due.street("t10,0;w50,1;w0,1;w40,1;");
        drawn(x, 3, 1, 5, 84);
        drawn(x, 4, 1, 5, 92);
        drawn(x, 5, 1, 7, 45 + 49 + 45);
        drawn(x, 6, 1, 7, 44 + 48 + 54);
        Due.is("drawn n -1", BAD, x.drawn(-1, 1, 0));
        Due.is("drawn n 61", BAD, x.drawn(61, 1, 0));
        Due.is("drawn seed 0", BAD, x.drawn(0, 0, 0));
        Due.is("drawn seed 1000000", BAD, x.drawn(0, 1000000, 0));
        Due.is("drawn what 2", BAD, x.drawn(0, 1, 2));
        Due.is("drawn what -1", BAD, x.drawn(0, 1, -1));
        Due.is("drawn seed 999999", 7, x.drawn(60, 999999, 0) | 7);
    }

    private static void promise30Image() {
        TopStreet x = new TopStreet();
        Due.is("image(2), no street", BAD, x.image(2));
        Due.is("image(0), no street", STATE, x.image(0));
        x = Due.street("t10,0;w50,1;w20,1;");
        Due.is("image(-1)", BAD, x.image(-1));
        Due.is("image(2)", BAD, x.image(2));
        x.lash(0);
        Due.is("image(0)", 1, x.image(0));
        Due.is("ACTS stay", 1, x.count(6));
        Due.is("image(1)", 1, x.image(1));
        x.hours(1);
        Due.is("image(1) anew", 1, x.image(1));
        x.restore(0);
        Due.is("SPIN of image 0", 60, x.house(0, 0));
        x.restore(1);
        Due.is("SPIN of image 1", 59, x.house(0, 0));
    }

    private static void promise31Restore() {
        TopStreet x = new TopStreet();
        Due.is("restore(2)", BAD, x.restore(2));
        Due.is("restore(-1)", BAD, x.restore(-1));
        Due.is("restore(0)", STATE, x.restore(0));
        x = Due.street("t10,7;w50,1;c20,3;w0,2;");
        x.touch(1, 1);
        x.hours(3);
        x.image(1);
        Due.is("restore(0)", STATE, x.restore(0));
        Due.feed(x, "t1,0;k9,4;k0,5;k7,6;k6,6;");
        x.street();
        x.touch(0, 1);
        x.hours(1);
        Due.is("restore(1)", 1, x.restore(1));
        Due.is("HOUSES", 3, x.count(1));
        Due.is("HOUR", 3, x.count(2));
        Due.is("WALLS", 2, x.count(5));
        Due.is("ACTS", 0, x.count(6));
        Due.is("undo()", STATE, x.undo());
        Due.is("LASH", 10, x.stand(4));
        Due.is("LEAN", 7, x.stand(5));
        int[][] due = {{47, 1, 1}, {11, 3, 2}, {0, 2, 1}};
        for (int h = 0; h < 3; h++) {
            Due.is("SPIN of " + h, due[h][0], x.house(h, 0));
            Due.is("RUB of " + h, due[h][1], x.house(h, 1));
            Due.is("KIND of " + h, due[h][2], x.kind(h));
        }
        x.lash(0);
        Due.is("restore(1) again", 1, x.restore(1));
        Due.is("what was done since is not kept", 47, x.house(0, 0));
    }
}
