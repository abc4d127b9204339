/** Promises 25 to 27: which kind, rub, spin, finger and lashes a hum tells of. */
public final class HumTest {
    private static final int NONE = TopStreet.NONE, BAD = TopStreet.BAD, STATE = TopStreet.STATE;
    private static final int NULL = -1000011, PLACE = -1000012;

    public static void main(String[] args) {
        promise25Kinds();
        promise25Rubs();
        promise25Spins();
        promise25Refusals();
        promise26Finger();
        promise26Refusals();
        promise27Lashes();
        promise27Refusals();
        Due.end("HumTest");
    }

    private static int who(TopStreet x, int house, int which, int... hum) {
        Due.row(x, 7, hum);
        return x.who(house, which, 7, 0, hum.length);
    }

    private static void promise25Kinds() {
        TopStreet x = Due.street("t1,10;p20,2;");
        Due.is("kinds of 19", 8 + 16 + 32, who(x, 0, 0, 19));
        Due.is("kinds of 18", 2 + 4, who(x, 0, 0, 18));
        Due.is("kinds of 20", 0, who(x, 0, 0, 20));
        Due.is("kinds of 18 16 14 12 10 8", 2 + 4, who(x, 0, 0, 18, 16, 14, 12, 10, 8));
        Due.is("kinds of 18 16 14 12 10 8 6", 2, who(x, 0, 0, 18, 16, 14, 12, 10, 8, 6));
        Due.is("kinds of 18 16 14 12 10 8 4", 4, who(x, 0, 0, 18, 16, 14, 12, 10, 8, 4));
        Due.is("kinds of one that sleeps", 32, who(Due.street("t1,10;w50,2;"), 0, 0, 50, 50));
        Due.is("kinds of a FALLEN one", 62, who(Due.street("t1,10;w0,2;"), 0, 0, 0, 0));
        Due.is("twelve hours", 8 + 16 + 32, who(x, 0, 0, 19, 18, 17, 16, 15, 14, 13, 12, 11, 10, 9, 8));
        Due.is("the last of twelve is heard", 0, who(x, 0, 0, 19, 18, 17, 16, 15, 14, 13, 12, 11, 10, 9, 7));
    }

    private static void promise25Rubs() {
        TopStreet x = Due.street("t1,10;w20,2;s20,2;k20,5;");
        Due.is("rubs of 19, wood", 2, who(x, 0, 1, 19));
        Due.is("rubs of 11, wood", 512, who(x, 0, 1, 11));
        Due.is("rubs of 10, wood", 0, who(x, 0, 1, 10));
        Due.is("rubs of 19, steel", 2 + 4 + 8, who(x, 1, 1, 19));
        Due.is("rubs of 16, steel", 256 + 512, who(x, 1, 1, 16));
        Due.is("rubs of 19, a church", 1022, who(x, 2, 1, 19));
    }

    private static void spins(TopStreet x, int many, int least, int greatest, int... hum) {
        Due.is("spins, how many", many, who(x, 0, 2, hum));
        Due.is("spins, the least", least, who(x, 0, 3, hum));
        Due.is("spins, the greatest", greatest, who(x, 0, 4, hum));
    }

    private static void promise25Spins() {
        TopStreet x = Due.street("t1,20;c77,5;w9,1;");
        spins(x, 11, 0, 10, 0);
        // 15 less 10, and 20 less 5 with 10 more in the next hour
        spins(x, 1, 15, 15, 5);
        spins(x, 1, 20, 20, 15, 5);
        spins(x, 0, NONE, NONE, 15, 10);
        spins(x, 1, 99, 99, 94);
        spins(x, 0, NONE, NONE, 95);
        x = Due.street("t1,0;k60,1;");
        spins(x, 1, 50, 50, 50);
        spins(x, 0, NONE, NONE, 49);
        spins(x, 1, 49, 49, 48);
        spins(x, 2, 0, 1, 0);
        x = Due.street("t1,0;w60,4;w40,3;");
        x.touch(0, 1);
        // the other one has 37: of 53 go 4 over, of 52 go 3
        spins(x, 2, 56, 57, 49);
        spins(x, 1, 40, 40, 36);
    }

    private static void promise25Refusals() {
        TopStreet x = new TopStreet();
        x.row(0, 0, 3);
        Due.is("who, no street", BAD, x.who(0, 0, 0, 0, 1));
        x = Due.street("t1,10;p20,2;");
        x.row(0, 0, 12);
        x.row(1, 0, 3);
        Due.is("who(-1)", BAD, x.who(-1, 0, 0, 0, 1));
        Due.is("who(1)", BAD, x.who(1, 0, 0, 0, 1));
        Due.is("who which 5", BAD, x.who(0, 5, 0, 0, 1));
        Due.is("who which -1", BAD, x.who(0, -1, 0, 0, 1));
        Due.is("who row 8", BAD, x.who(0, 0, 8, 0, 1));
        Due.is("who row -1", BAD, x.who(0, 0, -1, 0, 1));
        Due.is("who n 0", BAD, x.who(0, 0, 0, 0, 0));
        Due.is("who n 13", BAD, x.who(0, 0, 0, 0, 13));
        Due.is("who n 13 of a missing one", BAD, x.who(0, 0, 5, 0, 13));
        Due.is("who of a missing one", NULL, x.who(0, 0, 5, -1, 1));
        Due.is("who place -1", PLACE, x.who(0, 0, 1, -1, 1));
        Due.is("who place 3", PLACE, x.who(0, 0, 1, 3, 1));
        Due.is("who beyond", PLACE, x.who(0, 0, 1, 1, 3));
        Due.is("who place max", PLACE, x.who(0, 0, 1, Integer.MAX_VALUE, 12));
        Due.is("who of all", 0, x.who(0, 0, 0, 0, 12));
    }

    private static int finger(TopStreet x, int house, int... hum) {
        Due.row(x, 6, hum);
        return x.finger(house, 6, 0, hum.length);
    }

    private static void promise26Finger() {
        TopStreet x = Due.street("t1,5;w6,1;w20,1;");
        Due.is("half of the one before falls on it", 1, finger(x, 1, 19, 18, 12));
        Due.is("as it is", 256, finger(x, 1, 19, 18, 17));
        Due.is("its own half", 2, finger(x, 1, 9));
        Due.is("as it is, and the one before", 257, finger(x, 1, 19));
        Due.is("nobody", 0, finger(x, 1, 20));
        x = Due.street("t1,5;w1,1;w20,1;");
        Due.is("half of 1 is FALLEN, and does not fall", 1, finger(x, 1, 19));
        Due.is("as it is: it falls", 256, finger(x, 1, 14));
        x = Due.street("t1,5;w0,1;w20,1;w7,1;");
        Due.is("not a FALLEN one", 256 + 4, finger(x, 1, 19));
        Due.is("half is cut", 4, finger(x, 2, 2));
    }

    private static void promise26Refusals() {
        TopStreet x = new TopStreet();
        x.row(0, 0, 3);
        Due.is("finger, no street", BAD, x.finger(0, 0, 0, 1));
        x = Due.street("t1,10;p20,2;");
        x.row(1, 0, 3);
        Due.is("finger(-1)", BAD, x.finger(-1, 1, 0, 1));
        Due.is("finger(1)", BAD, x.finger(1, 1, 0, 1));
        Due.is("finger row 8", BAD, x.finger(0, 8, 0, 1));
        Due.is("finger row -1", BAD, x.finger(0, -1, 0, 1));
        Due.is("finger n 0", BAD, x.finger(0, 1, 0, 0));
        Due.is("finger n 13", BAD, x.finger(0, 1, 0, 13));
        Due.is("finger of a missing one", NULL, x.finger(0, 5, -1, 1));
        Due.is("finger place -1", PLACE, x.finger(0, 1, -1, 1));
        Due.is("finger beyond", PLACE, x.finger(0, 1, 2, 2));
    }

    private static int lashes(TopStreet x, int house, int other, int... hum) {
        Due.row(x, 5, hum);
        return x.lashes(house, other, 5, 0, hum.length);
    }

    private static void promise27Lashes() {
        int all = (1 << 30) - 1;
        TopStreet x = Due.street("t9,5;w3,3;w20,1;w90,1;w0,1;");
        Due.is("any lash keeps it up", all, lashes(x, 1, 0, 19));
        Due.is("no lash lets it fall", 0, lashes(x, 1, 0, 14));
        Due.is("4 on keep it up for two", all - 7, lashes(x, 1, 0, 19, 18));
        Due.is("1 to 3 do not", 7, lashes(x, 1, 0, 19, 13));
        Due.is("its own lash", 16, lashes(x, 1, 1, 19 - 5 + 5));
        Due.is("99 at most", all - 255, lashes(x, 2, 2, 98));
        Due.is("the hum of a FALLEN one", all, lashes(x, 3, 1, 0, 0));
    }

    private static void promise27Refusals() {
        TopStreet x = new TopStreet();
        x.row(0, 0, 3);
        Due.is("lashes, no street", BAD, x.lashes(0, 0, 0, 0, 1));
        x = Due.street("t1,10;p20,2;w0,1;");
        x.row(1, 0, 3);
        Due.is("lashes(-1)", BAD, x.lashes(-1, 0, 1, 0, 1));
        Due.is("lashes(2)", BAD, x.lashes(2, 0, 1, 0, 1));
        Due.is("lashes(0, -1)", BAD, x.lashes(0, -1, 1, 0, 1));
        Due.is("lashes(0, 2)", BAD, x.lashes(0, 2, 1, 0, 1));
        Due.is("lashes row 8", BAD, x.lashes(0, 1, 8, 0, 1));
        Due.is("lashes row -1", BAD, x.lashes(0, 1, -1, 0, 1));
        Due.is("lashes n 0", BAD, x.lashes(0, 1, 1, 0, 0));
        Due.is("lashes n 13", BAD, x.lashes(0, 1, 1, 0, 13));
        Due.is("the other one is FALLEN, ahead of NULL", STATE, x.lashes(0, 1, 5, 0, 1));
        Due.is("lashes of a missing one", NULL, x.lashes(1, 0, 5, -1, 1));
        Due.is("lashes place -1", PLACE, x.lashes(1, 0, 1, -1, 1));
        Due.is("lashes beyond", PLACE, x.lashes(1, 0, 1, 0, 4));
    }
}
