/** The edges that the sentences of 'Terms' draw, from both sides, by answers worked out by hand. */
public final class EdgesTest {
    private static final int NONE = TopStreet.NONE, BAD = TopStreet.BAD, STATE = TopStreet.STATE, FULL = TopStreet.FULL;
    private static final int NULL = -1000011, PLACE = -1000012;
    private static final String EIGHT = "t01,00;w09,01;w09,01;w09,01;w09,01;w09,01;w09,01;w09,01;k09,01;";

    public static void main(String[] args) {
        rowsInPlaceOfOthers();
        rowsAtTheirEnds();
        copies();
        tape();
        numbers();
        tokensThatCannotStand();
        figuresBesideSigns();
        housesThereIsRoomFor();
        aShorterStreet();
        losses();
        leaning();
        walls();
        falls();
        acts();
        actsByWhichNothingBecomesAnother();
        lashesAndPuttingUp();
        rangesOfHours();
        firstOfSeveral();
        rounds();
        fewestWalls();
        steadying();
        boysOnTheirOwnHouses();
        shares();
        humsOfOneAmongOthers();
        humsOfTwelve();
        sets();
        eightHousesForetold();
        cracks();
        decades();
        imagesApart();
        traces();
        tracesThatStay();
        greatestCounts();
        Due.end("EdgesTest");
    }

    // ---- 1 rows and texts

    /** In a street of one of 9 that loses 1: whether an item is 0 (two spins hum so), else which spin hums so. */
    private static void item(TopStreet x, int row, int i, int due) {
        Due.is("item " + i + " of " + row + ": how many spins", due == 0 ? 2 : 1, x.who(0, 2, row, i, 1));
        Due.is("item " + i + " of " + row + ": the greatest", due + 1, x.who(0, 4, row, i, 1));
    }

    private static void rowsInPlaceOfOthers() {
        TopStreet x = Due.street("t1,0;w9,1;");
        x.row(0, 2, 40);
        Due.is("set of an int", 300, x.set(0, 39, 300));
        x.set(0, 38, 7);
        x.set(0, 0, 8);
        item(x, 0, 38, 7);
        Due.is("row of bytes in its place", 39, x.row(0, 0, 39));
        item(x, 0, 0, 0);
        item(x, 0, 38, 0);
        Due.is("it has 39", PLACE, x.set(0, 39, 1));
        Due.is("set of a byte", 44, x.set(0, 38, 300));
        Due.is("row of shorts in its place", 40, x.row(0, 1, 40));
        item(x, 0, 38, 0);
        item(x, 0, 39, 0);
        Due.is("set of a short", 300, x.set(0, 38, 300));
        Due.is("set of a short, cut", 0, x.set(0, 38, 65536));
        x.set(0, 5, 6);
        Due.is("drop", 40, x.drop(0));
        Due.is("row anew", 6, x.row(0, 1, 6));
        item(x, 0, 5, 0);
    }

    private static void rowsAtTheirEnds() {
        TopStreet x = new TopStreet();
        for (int r = 0; r < 8; r++) {
            Due.is("set of a missing one", NULL, x.set(r, 0, 1));
            Due.is("row(" + r + ")", 5 * r, x.row(r, r % 3, 5 * r));
            Due.is("count(0)", r + 1, x.count(0));
        }
        for (int r = 0; r < 8; r++) {
            if (r > 0) {
                Due.is("the first of " + r, 1, x.set(r, 0, 1));
                Due.is("the last of " + r, 1, x.set(r, 5 * r - 1, 1));
            }
            Due.is("behind the last of " + r, PLACE, x.set(r, 5 * r, 1));
            Due.is("drop(" + r + ")", 5 * r, x.drop(r));
            Due.is("count(0)", 7 - r, x.count(0));
        }
    }

    private static void copies() {
        TopStreet x = Due.street("t1,0;w9,1;");
        Due.row(x, 0, 9, 8, 7, 6, 5);
        Due.is("copy to the front", 4, x.copy(0, 1, 0, 0, 4));
        Due.is("8 7 6 5 is the hum of 9", 9, x.who(0, 3, 0, 0, 4));
        item(x, 0, 4, 5);
        Due.is("copy of one onto itself", 5, x.copy(0, 0, 0, 0, 5));
        item(x, 0, 4, 5);
        x.row(1, 2, 40);
        x.row(2, 2, 40);
        x.set(1, 0, 3);
        x.set(1, 39, 4);
        Due.is("copy of 40", 40, x.copy(1, 0, 2, 0, 40));
        item(x, 2, 0, 3);
        item(x, 2, 39, 4);
        Due.is("copy of 41", PLACE, x.copy(1, 0, 2, 0, 41));
        Due.is("copy to the last", 1, x.copy(0, 0, 2, 39, 1));
        item(x, 2, 39, 8);
        item(x, 2, 38, 0);
        Due.is("copy beyond the last", PLACE, x.copy(0, 0, 2, 39, 2));
        Due.is("copy of none at the ends", 0, x.copy(1, 40, 2, 40, 0));
        Due.is("copy of none beyond one", PLACE, x.copy(1, 41, 2, 40, 0));
        Due.is("copy of none beyond the other", PLACE, x.copy(1, 40, 2, 41, 0));
        x.drop(1);
        Due.is("copy of none of a missing one", NULL, x.copy(1, 0, 2, 0, 0));
    }

    private static void tape() {
        TopStreet x = new TopStreet();
        Due.feed(x, "t1,0;w1,1;");
        for (int i = 11; i <= 100; i++) {
            Due.is("feed", i, x.feed(' '));
        }
        Due.is("feed of the 101st", FULL, x.feed(' '));
        Due.is("street() of 100 bytes", -1000110, x.street());
        Due.is("the tape is empty", 0, x.count(7));
        Due.is("feed behind", 1, x.feed('t'));
        Due.is("street()", -1000101, x.street());
    }

    private static void reads(String text, int due, int fault) {
        TopStreet x = new TopStreet();
        Due.feed(x, text);
        Due.is("street() of " + text, due, x.street());
        Due.is("fault() of " + text, fault, x.fault());
    }

    /** Every number of two figures at most, at each of its places. */
    private static void numbers() {
        for (int v = 0; v < 100; v++) {
            reads("t" + v + ",5;w1,1;", v >= 1 && v <= 30 ? 1 : -1000101, v >= 1 && v <= 30 ? 0 : 2);
            reads("t5," + v + ";w1,1;", v <= 40 ? 1 : -1000103, v <= 40 ? 0 : 2);
            reads("t5,5;w" + v + ",1;", 1, 0);
            reads("t5,5;w1," + v + ";", v >= 1 && v <= 9 ? 1 : -1000108, v >= 1 && v <= 9 ? 0 : 2);
        }
        reads("t100,5;w1,1;", -1000101, 1);
        reads("t000,5;w1,1;", -1000101, 1);
        reads("t5,010;w1,1;", -1000103, 1);
        reads("t5,5;w001,1;", -1000106, 1);
        reads("t5,5;w1,001;", -1000108, 1);
        reads("t5,5;w1,12345678901234567890;", -1000108, 1);
    }

    /** Whatever is no figure, and not the token due, has a fault of its own at its place. */
    private static void tokensThatCannotStand() {
        String text = "t5,5;w1,1;";
        for (int place = 0; place < text.length(); place++) {
            for (int b = 0; b < 256; b++) {
                boolean sort = place == 5 && "wcspk".indexOf(b) >= 0;
                if (b >= '0' && b <= '9' || b == text.charAt(place) || sort) {
                    continue;
                }
                TopStreet x = new TopStreet();
                for (int i = 0; i < text.length(); i++) {
                    x.feed(i == place ? b : text.charAt(i));
                }
                Due.is("street() of byte " + b + " at " + place, -1000100 - place, x.street());
                Due.is("fault()", 1, x.fault());
            }
        }
        for (int i = 0; i < 5; i++) {
            TopStreet x = Due.street("t5,5;" + "wcspk".charAt(i) + "1,1;");
            Due.is("kind of a letter", i + 1, x.kind(0));
        }
    }

    /** Figures that stand together are one token. */
    private static void figuresBesideSigns() {
        reads("55,5;w1,1;", -1000100, 1);
        reads("t5,5;55,1;", -1000105, 1);
        reads("t5,5;555,1;", -1000105, 1);
        reads("t5505;w1,1;", -1000101, 1);
        reads("t55;w1,1;", -1000101, 2);
        reads("t15;w1,1;", -1000103, 1);
        reads("t5,5 5;w1,1;", -1000104, 1);
        reads("t5,5;w1,15", -1000108, 2);
        reads("t5,5;w1,1", -1000109, 1);
        reads("t5,5;w1,1;;", -1000110, 1);
        reads("t5,5;w1,1;5", -1000110, 1);
    }

    private static void housesThereIsRoomFor() {
        reads(EIGHT, 8, 0);
        reads(EIGHT + "w", -1000163, 3);
        reads(EIGHT + "k9,9;", -1000163, 3);
        reads(EIGHT + "a", -1000163, 1);
        reads(EIGHT + ";", -1000163, 1);
        reads(EIGHT + "100", -1000163, 1);
        reads(EIGHT.substring(0, 56) + "w9,", -1000159, 1);
        reads(EIGHT.substring(0, 56), 7, 0);
        reads(EIGHT.substring(0, 56) + "s1,1;", 8, 0);
        reads(EIGHT.substring(0, 56) + "s1,0;w1,1;", -1000159, 2);
    }

    /** What an earlier street had behind the last house of this one is gone. */
    private static void aShorterStreet() {
        TopStreet x = Due.street("t9,30;w1,1;w2,1;w3,1;w1,1;w7,1;w8,1;w9,1;w1,1;");
        x.touch(1, 1);
        x.touch(6, 1);
        x.image(0);
        Due.feed(x, "t5,12;w5,1;w9,1;w12,1;");
        Due.is("street()", 3, x.street());
        Due.is("stand(0)", 7, x.stand(0));
        Due.is("stand(1)", 3, x.stand(1));
        Due.is("stand(2)", 0, x.stand(2));
        Due.is("stand(3)", 26, x.stand(3));
        Due.is("touch(2, 1)", BAD, x.touch(2, 1));
        Due.is("left(3)", 7, x.left(3));
        // the first falls in hour 5: 4 of the second go, then 7 of the third
        Due.is("left(5)", 0, x.left(5));
        Due.is("first(0)", 0, x.first(0));
        Due.is("walls(2, 0)", 0, x.walls(2, 0));
        Due.is("walls(2, 1)", 3, x.walls(2, 1));
        Due.is("steady(1, 1)", 3, x.steady(1, 1));
        Due.is("boys(0, 1)", 4 - 8 + 11, x.boys(0, 1));
        Due.is("boys(1, 1)", 9 - 8 + 11, x.boys(1, 1));
        Due.is("round(2, 1, -1)", 3, x.round(2, 1, -1));
        Due.is("round(2, 1, -2)", 4, x.round(2, 1, -2));
        Due.is("round(2, 1, 0)", 0, x.round(2, 1, 0));
        Due.is("crack(2, 0, 5, 0)", 1, x.crack(2, 0, 5, 0));
        Due.is("string(0, 9): 94, 90 and 87 are lacking", 4, x.string(0, 9));
        Due.is("string(2, 9)", 2, x.string(2, 9));
        Due.row(x, 0, 11);
        Due.is("finger(2, ..)", 256 + 1 + 2, x.finger(2, 0, 0, 1));
        x.hours(1);
        Due.spins("the shorter one", x, 4, 8, 11);
        Due.feed(x, "t5,12;w0,1;w0,1;");
        x.street();
        Due.is("steady(1, 0), none stands", NONE, x.steady(1, 0));
        Due.is("first(0), none stands", NONE, x.first(0));
        Due.is("string(0, 9), none stands", 0, x.string(0, 9));
        x.restore(0);
        Due.is("count(1)", 8, x.count(1));
        Due.is("WALLS", 2 + 64, x.count(5));
        x.undo();
        Due.is("WALLS cannot be undone", 2 + 64, x.count(5));
    }

    // ---- 2 houses, hours and acts

    private static void losses() {
        int[] steel = {1, 1, 1, 2, 2, 3, 3, 4, 4};
        for (int rub = 1; rub <= 9; rub++) {
            Due.is("wood", 90 - rub, Due.street("t1,40;w90," + rub + ";").ahead(0, 1));
            Due.is("cracked", 90 - rub, Due.street("t1,40;c90," + rub + ";").ahead(0, 1));
            Due.is("cracked that leans", 39 - 2 * rub, Due.street("t1,40;c39," + rub + ";").ahead(0, 1));
            Due.is("cracked that does not lean", 40 - rub, Due.street("t1,40;c40," + rub + ";").ahead(0, 1));
            Due.is("steel", 90 - steel[rub - 1], Due.street("t1,40;s90," + rub + ";").ahead(0, 1));
            Due.is("a parish's", 89, Due.street("t1,40;p90," + rub + ";").ahead(0, 1));
            Due.is("a church of 50", 50, Due.street("t1,40;k50," + rub + ";").ahead(0, 1));
            Due.is("a church of 49", 48, Due.street("t1,40;k49," + rub + ";").ahead(0, 1));
            Due.is("what it would lose", 2 * rub, Due.street("t1,40;c1," + rub + ";").house(0, 4));
            Due.is("0 at least", 0, Due.street("t1,40;c1," + rub + ";").ahead(0, 1));
        }
        TopStreet x = Due.street("t1,0;k49,9;k49,9;p49,9;p49,9;");
        int[][] due = {{1, 1, 1, 1}, {2, 2, 1, 1}, {2, 3, 2, 1}, {2, 3, 3, 2}};
        for (int w = 0; w < 4; w++) {
            for (int h = 0; h < 4; h++) {
                Due.is(w + " walls, what " + h + " would lose", due[w][h], x.house(h, 4));
            }
            x.touch(w, 1);
        }
        // one leans as the hour begins, or does not; what others lose makes no difference
        x = Due.street("t1,20;w25,9;c20,3;c19,3;");
        x.hours(1);
        Due.spins("leaning as the hour begins", x, 16, 17, 13);
        x.hours(1);
        Due.spins("leaning now", x, 7, 11, 7);
    }

    private static void leaning() {
        TopStreet x = Due.street("t1,20;w19,1;w20,1;w21,1;w1,1;w0,1;");
        Due.is("which lean", 1 + 8, x.stand(1));
        int[] due = {1, 0, 0, 1, 0};
        for (int h = 0; h < 5; h++) {
            Due.is("house(" + h + ", 3)", due[h], x.house(h, 3));
        }
        Due.is("LEAN 0: none leans", 0, Due.street("t1,0;w1,1;w0,1;").stand(1));
        Due.is("LEAN 1: none leans", 0, Due.street("t1,1;w1,1;w0,1;").stand(1));
        Due.is("LEAN 2: one of 1 leans", 1, Due.street("t1,2;w1,1;w0,1;").stand(1));
    }

    private static void walls() {
        for (int more = 0; more <= 40; more++) {
            TopStreet x = Due.street("t1,0;w50,1;w" + (50 + more) + ",1;w9,1;");
            x.touch(0, 1);
            x.hours(1);
            Due.spins("the second has " + more + " more", x, 49 + more / 4, 49 + more - more / 4, 8);
            x = Due.street("t1,0;w" + (50 + more) + ",1;w50,1;w9,1;");
            x.touch(0, 1);
            x.hours(1);
            Due.spins("the first has " + more + " more", x, 49 + more - more / 4, 49 + more / 4, 8);
        }
        TopStreet x = Due.street("t1,0;w41,1;w1,1;w41,1;w2,1;");
        for (int w = 0; w < 3; w++) {
            x.touch(w, 1);
        }
        x.hours(1);
        // 40 0 40 1: of 39 more a quarter is 9
        Due.spins("one that has 0 by now gets nothing, one of 1 does", x, 40, 0, 31, 10);
        x = Due.street("t1,0;k60,1;w21,1;");
        x.touch(0, 1);
        x.hours(1);
        Due.spins("one that sleeps gives", x, 50, 30);
        x.touch(0, 0);
        x.hours(1);
        Due.spins("and no more", x, 50, 29);
    }

    private static void falls() {
        TopStreet x = Due.street("t1,9;w1,1;w10,1;w30,1;");
        x.hours(1);
        Due.spins("9 less 9 is 0, and falls in its turn", x, 0, 0, 20);
        x = Due.street("t1,9;w1,1;w11,1;w30,1;");
        x.hours(1);
        Due.spins("10 less 9 is 1, and does not", x, 0, 1, 29);
        x = Due.street("t1,9;w1,1;w9,1;w30,1;");
        x.hours(1);
        Due.spins("8 less 9 is 0, too", x, 0, 0, 20);
        x = Due.street("t1,40;w1,1;k99,1;w1,1;");
        x.hours(1);
        Due.spins("a church that sleeps loses LEAN, too", x, 0, 59, 0);
        x = Due.street("t1,9;w1,1;w1,1;w30,1;");
        x.hours(1);
        Due.spins("both fall, each on the next", x, 0, 0, 20);
        x = Due.street("t1,0;w1,1;w1,1;w30,1;");
        x.hours(1);
        Due.spins("LEAN 0: nothing is lost by falls", x, 0, 0, 29);
        x = Due.street("t1,9;w30,1;w30,1;w1,1;");
        x.hours(1);
        Due.spins("the last falls on none", x, 29, 29, 0);
        x.hours(1);
        Due.spins("and not again", x, 28, 28, 0);
        x = Due.street("t1,9;w2,1;w9,1;w20,1;");
        x.touch(0, 1);
        x.hours(1);
        // 1 8 19: of 7 more a quarter is 1
        Due.spins("a wall that touches keeps it up", x, 2, 7, 19);
    }

    private static void acts() {
        TopStreet x = Due.street("t5,3;w20,2;w50,1;w0,1;");
        Due.is("refused ones are none", STATE, x.lash(2));
        x.touch(0, 0);
        x.hours(0);
        x.putUp(1);
        Due.is("ACTS", 0, x.count(6));
        x.touch(0, 1);
        x.touch(1, 1);
        x.touch(0, 0);
        Due.is("undo() of touching no more", 2, x.undo());
        Due.is("WALLS", 3, x.count(5));
        Due.is("undo() of touching", 1, x.undo());
        Due.is("WALLS", 1, x.count(5));
        Due.is("an act behind undoing", 55, x.lash(1));
        Due.is("ACTS", 2, x.count(6));
        x.undo();
        x.undo();
        Due.is("undo()", STATE, x.undo());
        Due.spins("all undone", x, 20, 50, 0);
        x.hours(23);
        Due.is("ACTS", 23, x.count(6));
        x.lash(1);
        Due.is("ACTS", 24, x.count(6));
        x.hours(1);
        Due.is("ACTS, one forgotten", 24, x.count(6));
        for (int left = 23; left >= 0; left--) {
            Due.is("undo()", left, x.undo());
        }
        Due.is("undo()", STATE, x.undo());
        Due.is("HOUR: the first was forgotten", 1, x.count(2));
        Due.spins("behind the first hour", x, 18, 49, 0);
    }

    private static void actsByWhichNothingBecomesAnother() {
        TopStreet x = Due.street("t5,3;w99,1;");
        Due.is("lash(0)", 99, x.lash(0));
        Due.is("ACTS", 1, x.count(6));
        Due.is("undo()", 0, x.undo());
        Due.is("undo()", STATE, x.undo());
        x = Due.street("t5,3;w0,1;");
        Due.is("hours(1), all FALLEN", 0, x.hours(1));
        Due.is("ACTS", 1, x.count(6));
        Due.is("HOUR", 1, x.count(2));
    }

    private static void lashesAndPuttingUp() {
        for (int spin = 1; spin <= 99; spin++) {
            Due.is("lash of " + spin, Math.min(99, spin + 30), Due.street("t30,0;w" + spin + ",1;").lash(0));
        }
        Due.is("lash by 1", 99, Due.street("t1,0;w98,1;").lash(0));
        TopStreet x = Due.street("t30,40;k0,1;w1,9;w0,1;");
        Due.is("putUp(0)", 3, x.putUp(0));
        Due.is("hours(1)", 1, x.hours(1));
        Due.spins("put up, it sleeps", x, 50, 0, 0);
        Due.is("one that fell is put up", 3, x.putUp(1));
        Due.is("kind(1)", 1, x.kind(1));
        Due.is("house(1, 1)", 9, x.house(1, 1));
        Due.is("touch(0, 1)", 1, x.touch(0, 1));
        Due.is("lash(1)", 80, x.lash(1));
        Due.is("HOUR of these stays", 1, x.count(2));
        x.undo();
        x.undo();
        Due.is("undo()", 2, x.undo());
        Due.is("it is FALLEN", STATE, x.lash(1));
    }

    // ---- 3 foretold

    private static void rangesOfHours() {
        TopStreet x = Due.street("t1,40;k99,1;w99,1;w61,1;w60,1;");
        Due.is("ahead(1, 60)", 39, x.ahead(1, 60));
        Due.is("ahead(1, 59)", 40, x.ahead(1, 59));
        Due.is("when(1, 1): 39 behind 60", 60, x.when(1, 1));
        Due.is("when(2, 0)", NONE, x.when(2, 0));
        Due.is("when(3, 0)", 60, x.when(3, 0));
        Due.is("when(3, 1)", 21, x.when(3, 1));
        Due.is("when(0, 0)", NONE, x.when(0, 0));
        Due.is("when(0, 1)", NONE, x.when(0, 1));
        Due.is("left(60)", 7, x.left(60));
        Due.is("left(59)", 15, x.left(59));
        Due.is("first(0)", 3, x.first(0));
        Due.is("first(1)", 60, x.first(1));
        x = Due.street("t1,39;w99,1;w61,1;");
        Due.is("when(0, 1): 39 behind 60", NONE, x.when(0, 1));
        Due.is("first(0)", NONE, x.first(0));
        Due.is("walls(60, 1)", 2, x.walls(60, 1));
        Due.is("boys(0, 20)", 38, x.boys(0, 20));
    }

    private static void firstOfSeveral() {
        TopStreet x = Due.street("t1,9;w0,1;w30,1;w6,3;w4,2;w2,1;");
        Due.is("first(0)", 2, x.first(0));
        Due.is("first(1)", 2, x.first(1));
        x = Due.street("t1,9;w0,1;w0,1;");
        Due.is("first(0), none stands", NONE, x.first(0));
        Due.is("first(1), none stands", NONE, x.first(1));
    }

    private static void rounds() {
        // 1 and a lash is 6, 5 behind the hour; each hour more 4 more
        Due.round(Due.street("t5,0;w1,1;w0,1;"), 1, 1, 29, 0, 1, 1, 1, 1, 1, 1);
        Due.round(Due.street("t5,0;w0,1;w1,1;"), 0, 1, 29, 2, 1, 1, 1, 1, 1, 1);
        // 99 it is at most, so that going to the FALLEN one and back is not less: of several the first
        Due.round(Due.street("t30,0;w0,1;w98,1;"), 1, 1, 98, 0, 2);
        Due.round(Due.street("t1,0;k99,1;k99,1;k99,1;"), 1, 3, 99, 0, 1, 1);
        // more that stand come ahead of a greater least: it holds the first up till the hours end, with 1
        Due.round(Due.street("t1,0;w1,1;w50,1;"), 0, 2, 1, 1);
        Due.round(Due.street("t1,0;w1,1;w50,1;"), 1, 2, 1, 0);
        Due.round(Due.street("t1,0;w3,3;w50,1;"), 0, 2, 1, 1);
        // two houses up at once is no way to go
        Due.round(Due.street("t9,0;w50,1;w50,1;w3,3;"), 0, 2, 49, 1);
        Due.round(Due.street("t9,0;w3,3;w50,1;w50,1;"), 2, 2, 49, 0);
        // what was found of a better street is gone
        TopStreet x = Due.street("t1,0;w2,2;w50,1;w9,1;");
        Due.round(x, 1, 3, 1, 0);
        x.hours(1);
        Due.round(x, 1, 2, 8, 2);
        // two hours it cannot hold: then the greatest least of the one that is left
        Due.round(Due.street("t1,0;w3,3;w50,1;"), 0, 1, 50, 2, 1);
    }

    private static void fewestWalls() {
        TopStreet x = Due.street("t1,0;w11,2;w5,1;w2,1;w9,2;");
        // 9 4 1 7 behind an hour: the third gets 1 by wall 2, or by wall 1 behind wall 0
        Due.is("walls(2, 0)", 4, x.walls(2, 0));
        Due.is("walls(2, 1)", 4, x.walls(2, 1));
        x.touch(0, 1);
        x.touch(1, 1);
        Due.is("by walls 0 and 1", 15, x.left(2));
        x.touch(0, 0);
        Due.is("by wall 1", 11, x.left(2));
        Due.is("walls(2, 0) all the same", 4, x.walls(2, 0));
        // 1 8 1 3 behind an hour: the first gets 1 by wall 0, the third by wall 1; the fourth falls
        x = Due.street("t1,0;w2,1;w10,2;w2,1;w7,4;");
        Due.is("walls(2, 0): more that stand come ahead of fewer walls", 3, x.walls(2, 0));
        Due.is("walls(2, 1)", 3, x.walls(2, 1));
    }

    private static void steadying() {
        TopStreet x = Due.street("t1,0;w99,9;w12,9;w12,9;");
        Due.is("steady(2, 0)", 1, x.steady(2, 0));
        Due.is("steady(2, 1)", 2, x.steady(2, 1));
        Due.is("steady(1, 0): all stand, the first", 0, x.steady(1, 0));
        Due.is("steady(11, 0): none stands, the first", 0, x.steady(11, 0));
        Due.is("steady(11, 1)", 0, x.steady(11, 1));
        Due.is("steady(10, 0)", 1, x.steady(10, 0));
    }

    private static void boysOnTheirOwnHouses() {
        // the second is lost, and falls on the third: the first boy would hold it up, if it were his
        TopStreet x = Due.street("t5,20;w0,1;w1,1;w30,1;");
        Due.is("boys(0, 1)", 9, x.boys(0, 1));
        Due.is("boys(1, 1)", 14, x.boys(1, 1));
        Due.is("boys(2, 1)", 14, x.boys(2, 1));
        // the third is lost, and falls on the fourth: the second boy would hold it up, if it were his
        x = Due.street("t5,20;w0,1;w0,1;w1,1;w30,1;");
        Due.is("boys(0, 1)", -9, x.boys(0, 1));
        Due.is("boys(1, 1)", -9, x.boys(1, 1));
        Due.is("boys(2, 1)", -14, x.boys(2, 1));
        Due.is("boys(4, 1)", -19, x.boys(4, 1));
    }

    private static void shares() {
        TopStreet x = Due.street("t1,0;w0,1;w98,1;w99,1;w98,1;w97,1;");
        int[][] due = {{0, 0, 0, 0, 0}, {0, 1, 0, 0, 0}, {0, 1, 0, 0, 1}, {0, 1, 0, 1, 1}, {0, 1, 0, 1, 2},
            {0, 2, 0, 1, 2}};
        for (int n = 0; n < 6; n++) {
            for (int h = 0; h < 5; h++) {
                Due.is("string(" + h + ", " + n + ")", due[n][h], x.string(h, n));
            }
        }
        Due.is("all to the one that lacks", 999, Due.street("t1,0;w99,1;w98,1;").string(1, 999));
        Due.is("none lacks any", 0, Due.street("t1,0;w99,1;w0,1;").string(0, 999));
        Due.is("one of 1 lacks 98", 999, Due.street("t1,0;w99,1;w1,1;").string(1, 999));
    }

    /** What it may have been is tried with all else that it is. */
    private static void humsOfOneAmongOthers() {
        TopStreet x = Due.street("t1,10;s20,5;w40,3;c30,4;");
        Due.row(x, 0, 37, 39, 28, 22);
        Due.is("kinds of 37", 2 + 4, x.who(1, 0, 0, 0, 1));
        Due.is("kinds of 39", 8 + 16 + 32, x.who(1, 0, 0, 1, 1));
        Due.is("rubs of 37", 8, x.who(1, 1, 0, 0, 1));
        Due.is("spins of 37", 40, x.who(1, 3, 0, 0, 1));
        Due.is("kinds of 28", 8, x.who(2, 0, 0, 2, 1));
        Due.is("rubs of 28", 4, x.who(2, 1, 0, 2, 1));
        Due.is("spins of 22", 26, x.who(2, 4, 0, 3, 1));
        Due.is("spins of 22, how many", 1, x.who(2, 2, 0, 3, 1));
    }

    private static void humsOfTwelve() {
        TopStreet x = Due.street("t1,0;w60,3;w0,1;");
        x.row(0, 1, 14);
        for (int i = 0; i < 12; i++) {
            x.set(0, 2 + i, 57 - 3 * i);
        }
        Due.is("who, 12 up to the end", 8, x.who(0, 1, 0, 2, 12));
        Due.is("finger, 12 up to the end", 256, x.finger(0, 0, 2, 12));
        Due.is("lashes, 12 up to the end", 0, x.lashes(0, 0, 0, 2, 12));
        Due.is("who, beyond the end", PLACE, x.who(0, 1, 0, 3, 12));
        Due.is("finger, beyond the end", PLACE, x.finger(0, 0, 3, 12));
        Due.is("lashes, beyond the end", PLACE, x.lashes(0, 0, 0, 3, 12));
        Due.is("who, 1 at the end", 0, x.who(0, 1, 0, 13, 1));
        x.set(0, 13, 23);
        Due.is("who, the twelfth differs", 0, x.who(0, 1, 0, 2, 12));
        Due.is("finger, the twelfth differs", 0, x.finger(0, 0, 2, 12));
        Due.is("who, 11 of it", 8, x.who(0, 1, 0, 2, 11));
        Due.is("finger, 11 of it", 256, x.finger(0, 0, 2, 11));
        x.set(0, 2, 56);
        Due.is("who, the first differs", 0, x.who(0, 1, 0, 2, 11));
        Due.is("finger, the first differs", 0, x.finger(0, 0, 2, 11));
        x.set(0, 0, -1);
        Due.is("who, below 0", 0, x.who(0, 2, 0, 0, 1));
        Due.is("who, below 0: the least", NONE, x.who(0, 3, 0, 0, 1));
        Due.is("who, below 0: the greatest", NONE, x.who(0, 4, 0, 0, 1));
    }

    /** Sets are bits: the first and the last of each. */
    private static void sets() {
        TopStreet x = Due.street("t1,0;w20,1;w20,1;w20,1;w20,1;w20,1;w20,1;w20,1;w20,1;");
        Due.row(x, 0, 9, 19, 20, 49, 50, 18);
        Due.is("finger(7, ..)", 128, x.finger(7, 0, 0, 1));
        Due.is("finger(0, ..)", 1, x.finger(0, 0, 0, 1));
        Due.is("finger(7, ..) of 19", 256 + 127, x.finger(7, 0, 1, 1));
        Due.is("lashes by 1", 1, x.lashes(7, 7, 0, 2, 1));
        Due.is("lashes by 30", 1 << 29, x.lashes(7, 7, 0, 3, 1));
        Due.is("lashes by 31", 0, x.lashes(7, 7, 0, 4, 1));
        Due.is("lashes by 0", 0, x.lashes(7, 7, 0, 1, 1));
        Due.is("rubs, 1", 2, x.who(7, 1, 0, 1, 1));
        Due.is("rubs, 2", 4, x.who(7, 1, 0, 5, 1));
        Due.is("rubs, 11", 0, x.who(7, 1, 0, 0, 1));
        Due.is("kinds", 62, x.who(7, 0, 0, 1, 1));
        for (int w = 0; w < 7; w++) {
            Due.is("touch(" + w + ", 1)", (2 << w) - 1, x.touch(w, 1));
        }
        Due.is("touch(7, 1)", BAD, x.touch(7, 1));
        Due.is("stand(0)", 255, x.stand(0));
        Due.is("left(19)", 255, x.left(19));
        Due.is("left(20)", 0, x.left(20));
    }

    /** As many houses as there is room for: nothing looks for a ninth. */
    private static void eightHousesForetold() {
        TopStreet x = Due.street("t1,0;k99,1;k99,1;k99,1;k99,1;k99,1;k99,1;k99,1;k99,1;");
        Due.is("ahead(7, 60)", 99, x.ahead(7, 60));
        Due.is("when(7, 0)", NONE, x.when(7, 0));
        Due.is("first(0)", NONE, x.first(0));
        Due.is("left(60)", 255, x.left(60));
        Due.round(x, 7, 8, 99, 0, 0, 0, 0, 0, 0, 0);
        Due.round(x, 0, 8, 99, 1, 1, 1, 1, 1, 1, 1);
        Due.is("walls(60, 0)", 0, x.walls(60, 0));
        Due.is("walls(60, 1)", 8, x.walls(60, 1));
        Due.is("steady(60, 0)", 0, x.steady(60, 0));
        Due.is("steady(60, 1)", 8, x.steady(60, 1));
        Due.is("boys(4, 20)", 0, x.boys(4, 20));
        Due.is("string(7, 999)", 0, x.string(7, 999));
        Due.row(x, 0, 99);
        // its own half, 49, does not sleep, and hums 48
        Due.is("finger(7, ..)", 256 + 127, x.finger(7, 0, 0, 1));
        Due.is("lashes(7, 0, ..)", (1 << 30) - 1, x.lashes(7, 0, 0, 0, 1));
        Due.crack(x, 7, 30, 5, 1, 1);
        Due.is("drawn(60, 1, 0)", 255, x.drawn(60, 1, 0));
        Due.is("drawn(60, 1, 1)", 792, x.drawn(60, 1, 1));
    }

    private static void cracks() {
        int[][] due = {{1, 1}, {9, 10}, {4, 5}, {7, 10}, {3, 5}, {1, 2}, {2, 5}, {3, 10}, {1, 5}, {1, 10}, {0, 1}};
        TopStreet x = Due.street("t1,0;w61,1;w3,1;");
        for (int p = 0; p <= 10; p++) {
            Due.crack(x, 0, 30, p, due[p][0], due[p][1]);
            Due.crack(x, 1, 1, p, due[p][0], due[p][1]);
        }
        // half of 61 is 30, of 62 it is 31
        x = Due.street("t1,0;w62,1;");
        Due.crack(x, 0, 30, 10, 1, 1);
        // one that stands and falls on a FALLEN one, or stands on
        x = Due.street("t1,9;w2,1;w0,1;");
        Due.crack(x, 1, 30, 5, 0, 1);
        Due.crack(x, 0, 1, 5, 1, 2);
        // apart: it falls by the one before, if that is halved, and it itself
        x = Due.street("t1,9;w3,1;w12,1;");
        Due.crack(x, 1, 1, 5, 3, 4);
        Due.crack(x, 1, 1, 3, 91, 100);
        // it stands if neither is halved: either falls in the second hour then
        x = Due.street("t1,9;w4,1;w3,1;");
        Due.crack(x, 1, 2, 5, 1, 4);
        Due.crack(x, 1, 2, 3, 49, 100);
    }

    private static void decades() {
        // by 999999 X is 1774597664: the first of 8; it is even, but 5 leaves 4
        TopStreet x = Due.street("t10,0;w20,1;w20,1;w20,1;w20,1;w20,1;w20,1;w20,1;w20,1;");
        Due.is("drawn(1, 999999, 1)", 8 * 19 + 10, x.drawn(1, 999999, 1));
        Due.is("drawn(0, 999999, 1)", 160, x.drawn(0, 999999, 1));
        x = Due.street("t10,0;k0,1;w0,1;w0,1;w0,1;w0,1;w0,1;w0,1;w0,1;");
        Due.is("drawn(1, 999999, 0)", 0, x.drawn(1, 999999, 0));
        // by 40 it is 672280: the first of 8, and 5 leaves 0
        Due.is("drawn(1, 40, 0)", 1, x.drawn(1, 40, 0));
        Due.is("drawn(1, 40, 1): put up, it sleeps", 50, x.drawn(1, 40, 1));
        Due.is("HOUR stays", 0, x.count(2));
    }

    private static void imagesApart() {
        TopStreet x = Due.street("t9,5;w20,1;w30,2;");
        x.image(0);
        Due.is("restore(1): none was kept", STATE, x.restore(1));
        x.touch(0, 1);
        x.lash(0);
        x.image(1);
        x.hours(5);
        Due.is("restore(0)", 1, x.restore(0));
        Due.spins("image 0", x, 20, 30);
        Due.is("its WALLS", 0, x.count(5));
        x.hours(1);
        Due.is("restore(0) again", 1, x.restore(0));
        Due.spins("image 0 again", x, 20, 30);
        Due.is("ACTS", 0, x.count(6));
        Due.is("restore(1)", 1, x.restore(1));
        Due.spins("image 1", x, 29, 30);
        Due.is("its WALLS", 1, x.count(5));
        x.image(0);
        x.lash(1);
        Due.is("ACTS", 1, x.count(6));
        x.restore(0);
        Due.spins("image 0 anew", x, 29, 30);
    }

    // ---- 4 asks

    private static void traces() {
        TopStreet x = Due.street("t3,5;c22,2;k0,4;");
        x.ask(0, 0);
        int[] due = {12, 11, 10, 24, 21, 20};
        for (int i = 0; i < 6; i++) {
            Due.is("trace(" + i + ")", due[i], x.trace(i));
        }
        Due.is("trace(6)", NONE, x.trace(6));
        Due.is("ask of a FALLEN one", 2 * (4 - 100), x.ask(1, 0));
        Due.is("trace(2)", 10, x.trace(2));
        Due.is("trace(3): it was emptied", NONE, x.trace(3));
        for (int k = 0; k < 10; k++) {
            x.ask(0, 1);
        }
        Due.is("trace(2) of many asks", 20, x.trace(2));
        Due.is("trace(3) of many asks", NONE, x.trace(3));
        Due.is("ask by SPIN now", 44, x.ask(0, 1));
        x.hours(1);
        Due.is("ask by SPIN then", 40, x.ask(0, 1));
    }

    /** An ask alone empties the trace; calls without a row leave status(). */
    private static void tracesThatStay() {
        TopStreet x = Due.street("t3,5;c22,2;k9,4;");
        x.image(0);
        x.as(0, 5);
        x.ask(1, 0);
        x.hours(1);
        x.lash(0);
        x.touch(0, 1);
        x.undo();
        x.restore(0);
        Due.feed(x, "t1,0;w1,1;");
        x.street();
        x.drop(5);
        x.as(0, 4);
        int[] due = {14, 13, 10, NONE};
        for (int i = 0; i < 4; i++) {
            Due.is("trace(" + i + ") stays", due[i], x.trace(i));
        }
        x.ask(0, 1);
        Due.feed(x, "t1,0;w1,1;w0,1;");
        x.street();
        x.putUp(1);
        x.image(0);
        x.restore(0);
        x.street();
        Due.is("status() stays", 3, x.status());
        Due.is("trace(0)", 21, x.trace(0));
    }

    private static void greatestCounts() {
        TopStreet x = Due.street("t1,0;k99,1;k99,1;k99,1;k99,1;k99,1;k99,1;k99,1;k99,1;");
        for (int w = 0; w < 7; w++) {
            x.touch(w, 1);
        }
        for (int r = 0; r < 8; r++) {
            x.row(r, 0, 0);
        }
        x.hours(24);
        int[] due = {8, 8, 24, 8, 792, 127, 24, 0};
        for (int what = 0; what < 8; what++) {
            Due.is("count(" + what + ")", due[what], x.count(what));
        }
        Due.is("stand(3)", 792, x.stand(3));
    }
}
