/** Promises 1 to 5 and 37: a new object, rows and their findings. */
public final class RowsTest {
    private static final int BAD = TopStreet.BAD;
    private static final int NULL = -1000011, PLACE = -1000012, SIZE = -1000014, STORE = -1000015;

    public static void main(String[] args) {
        constants();
        promise1New();
        promise2Row();
        promise3Set();
        promise4Copy();
        promise5Drop();
        promise37Status();
        Due.end("RowsTest");
    }

    private static void constants() {
        Due.is("NONE", -1000000, TopStreet.NONE);
        Due.is("BAD", -1000001, TopStreet.BAD);
        Due.is("STATE", -1000002, TopStreet.STATE);
        Due.is("FULL", -1000003, TopStreet.FULL);
    }

    private static void promise1New() {
        TopStreet x = new TopStreet();
        for (int what = 0; what <= 7; what++) {
            Due.is("count(" + what + ") of a new one", 0, x.count(what));
        }
        Due.is("stand(0) of a new one", TopStreet.STATE, x.stand(0));
        Due.is("fault() of a new one", 0, x.fault());
        Due.is("status() of a new one", 0, x.status());
        Due.is("trace(0) of a new one", TopStreet.NONE, x.trace(0));
        for (int r = 0; r < 8; r++) {
            Due.is("drop(" + r + ") of a new one", NULL, x.drop(r));
        }
    }

    private static void promise2Row() {
        TopStreet x = new TopStreet();
        Due.is("row(-1, 0, 1)", BAD, x.row(-1, 0, 1));
        Due.is("row(8, 0, 1)", BAD, x.row(8, 0, 1));
        Due.is("row(0, -1, 1)", BAD, x.row(0, -1, 1));
        Due.is("row(0, 3, 1)", BAD, x.row(0, 3, 1));
        Due.is("row(0, 0, 41)", BAD, x.row(0, 0, 41));
        Due.is("row(0, 3, -1)", BAD, x.row(0, 3, -1));
        Due.is("row(0, 0, -1)", SIZE, x.row(0, 0, -1));
        Due.is("row(0, 0, min)", SIZE, x.row(0, 0, Integer.MIN_VALUE));
        Due.is("count(0) behind these", 0, x.count(0));
        Due.is("row(0, 0, 0)", 0, x.row(0, 0, 0));
        Due.is("row(7, 2, 40)", 40, x.row(7, 2, 40));
        Due.is("count(0)", 2, x.count(0));
        Due.is("set(7, 39, 5)", 5, x.set(7, 39, 5));
        Due.is("row(7, 2, -1)", SIZE, x.row(7, 2, -1));
        Due.is("row(1, 2, 1)", 1, x.row(1, 2, 1));
        Due.is("copy: what was found changed nothing", 1, x.copy(7, 39, 1, 0, 1));
        Due.is("row(7, 2, 40) anew", 40, x.row(7, 2, 40));
        Due.is("count(0) behind", 3, x.count(0));
        TopStreet y = Due.street("t1,0;w1,1;");
        Due.row(y, 0, 7, 7);
        Due.is("spins that hum 7 and 7", 0, y.who(0, 2, 0, 0, 2));
        Due.is("row anew", 2, y.row(0, 0, 2));
        Due.is("it holds noughts: spins 0 and 1 hum so", 2, y.who(0, 2, 0, 0, 2));
    }

    private static void promise3Set() {
        TopStreet x = new TopStreet();
        Due.is("set of a missing one", NULL, x.set(0, 0, 1));
        Due.is("set(-1, ..)", BAD, x.set(-1, 0, 1));
        Due.is("set(8, ..)", BAD, x.set(8, 0, 1));
        x.row(0, 0, 3);
        x.row(1, 1, 3);
        x.row(2, 2, 3);
        int[] values = {0, 1, -1, 127, 128, -128, -129, 255, 256, 32767, 32768, -32768, -32769, 65535, 65536,
            Integer.MAX_VALUE, Integer.MIN_VALUE, 1000000};
        for (int v : values) {
            Due.is("set byte " + v, (byte) v, x.set(0, 0, v));
            Due.is("set short " + v, (short) v, x.set(1, 1, v));
            Due.is("set int " + v, v, x.set(2, 2, v));
        }
        Due.is("set byte 200", -56, x.set(0, 0, 200));
        Due.is("set short 40000", -25536, x.set(1, 0, 40000));
        Due.is("set place -1", PLACE, x.set(0, -1, 1));
        Due.is("set place 3", PLACE, x.set(0, 3, 1));
        Due.is("set place max", PLACE, x.set(0, Integer.MAX_VALUE, 1));
        Due.is("set place min", PLACE, x.set(0, Integer.MIN_VALUE, 1));
        x.row(0, 0, 0);
        Due.is("set of none", PLACE, x.set(0, 0, 1));
    }

    private static void promise4Copy() {
        // a wood one of 9 that loses 1 hums 8, 7, 6, 5, 4: who's number tells what a row holds
        TopStreet x = Due.street("t1,0;w9,1;");
        Due.row(x, 0, 9, 8, 7, 6, 5);
        Due.is("copy over itself", 4, x.copy(0, 0, 0, 1, 4));
        Due.is("as they were ahead: 8 7 6, the hum of 9", 9, x.who(0, 3, 0, 2, 3));
        Due.is("the first stays", 10, x.who(0, 3, 0, 0, 1));
        Due.row(x, 1, 0, 0, 0);
        Due.is("copy to another", 2, x.copy(0, 1, 1, 1, 2));
        Due.is("what came", 10, x.who(0, 3, 1, 1, 2));
        Due.is("copy of none", 0, x.copy(0, 5, 1, 3, 0));
        x.row(2, 1, 3);
        Due.is("copy(-1)", BAD, x.copy(-1, 0, 0, 0, 1));
        Due.is("copy(8)", BAD, x.copy(8, 0, 0, 0, 1));
        Due.is("copy(.., -1)", BAD, x.copy(0, 0, -1, 0, 1));
        Due.is("copy(.., 8)", BAD, x.copy(0, 0, 8, 0, 1));
        Due.is("missing a, ahead of PLACE", NULL, x.copy(5, -1, 0, 0, 1));
        Due.is("missing b", NULL, x.copy(0, 0, 5, 0, 1));
        Due.is("lanes, ahead of PLACE", STORE, x.copy(0, -1, 2, 0, 1));
        Due.is("lanes of none", STORE, x.copy(0, 0, 2, 0, 0));
        Due.is("n below 0", PLACE, x.copy(0, 0, 1, 0, -1));
        Due.is("i below 0", PLACE, x.copy(0, -1, 1, 0, 1));
        Due.is("j below 0", PLACE, x.copy(0, 0, 1, -1, 1));
        Due.is("beyond a", PLACE, x.copy(0, 4, 1, 0, 2));
        Due.is("beyond b", PLACE, x.copy(0, 0, 1, 2, 2));
        Due.is("far beyond a", PLACE, x.copy(0, Integer.MAX_VALUE, 1, 0, 1));
        Due.is("far beyond b", PLACE, x.copy(0, 1, 1, 1, Integer.MAX_VALUE));
        Due.is("i beyond, none", PLACE, x.copy(0, 6, 1, 0, 0));
        Due.is("j beyond, none", PLACE, x.copy(0, 0, 1, 4, 0));
        Due.is("nothing became another", 10, x.who(0, 3, 1, 1, 2));
    }

    private static void promise5Drop() {
        TopStreet x = new TopStreet();
        Due.is("drop(-1)", BAD, x.drop(-1));
        Due.is("drop(8)", BAD, x.drop(8));
        Due.is("drop of a missing one", NULL, x.drop(3));
        x.row(3, 1, 17);
        Due.is("drop", 17, x.drop(3));
        Due.is("count(0)", 0, x.count(0));
        Due.is("drop again", NULL, x.drop(3));
        Due.is("set of it", NULL, x.set(3, 0, 1));
    }

    private static void promise37Status() {
        TopStreet x = Due.street("t1,0;w9,1;w0,1;");
        Due.is("status at first", 0, x.status());
        x.drop(0);
        Due.is("status NULL", 1, x.status());
        x.drop(-1);
        x.row(0, 9, 9);
        x.set(8, 0, 0);
        x.copy(0, 0, 9, 0, 0);
        x.who(0, 5, 0, 0, 1);
        x.finger(2, 0, 0, 1);
        x.lashes(0, 1, 0, 0, 1);
        x.lash(1);
        x.as(5, 0);
        x.feed(1);
        Due.is("status stays behind BAD, STATE and others", 1, x.status());
        x.row(0, 0, 2);
        Due.is("status behind a good row", 0, x.status());
        x.set(0, 2, 0);
        Due.is("status PLACE", 2, x.status());
        x.set(0, 1, 0);
        Due.is("status behind a good set", 0, x.status());
        x.as(0, 4);
        Due.is("status KIND", 3, x.status());
        x.as(0, 1);
        Due.is("status behind a good as", 0, x.status());
        x.row(0, 0, -1);
        Due.is("status SIZE", 4, x.status());
        x.copy(0, 0, 0, 0, 2);
        Due.is("status behind a good copy", 0, x.status());
        x.row(1, 1, 1);
        x.copy(0, 0, 1, 0, 1);
        Due.is("status STORE", 5, x.status());
        x.who(0, 0, 0, 0, 1);
        Due.is("status behind a good who", 0, x.status());
        x.who(0, 0, 2, 0, 1);
        Due.is("status of who", 1, x.status());
        x.finger(0, 0, 0, 1);
        Due.is("status behind a good finger", 0, x.status());
        x.finger(0, 0, 2, 1);
        Due.is("status of finger", 2, x.status());
        x.lashes(0, 0, 0, 0, 1);
        Due.is("status behind good lashes", 0, x.status());
        x.lashes(0, 0, 2, 0, 1);
        Due.is("status of lashes", 1, x.status());
        x.drop(0);
        Due.is("status behind a good drop", 0, x.status());
    }
}
