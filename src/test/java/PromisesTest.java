/** Each promise by itself: ordinary inputs, the edges that the document names, wrong inputs. */
public final class PromisesTest {
    private static final long BAD_LONG = Sky.BAD_LONG, NO_LONG = Sky.NO_LONG;
    private static final Due DUE = new Due();

    private static void due(String call, long got, long want) {
        DUE.is(call, got, want);
    }

    private static int fault(String text) {
        return Sky.fault(new SkyClocks(), text);
    }

    private static void promise01() {
        SkyClocks x = new SkyClocks();
        for (int s = 0; s < 4; s++) {
            due("1 many", x.many(s), 0);
            due("1 comes", x.comes(s, 0), -2);
        }
        due("1 count(0)", x.count(0), 0);
        due("1 count(1)", x.count(1), 0);
        due("1 count(2)", x.count(2), 0);
        due("1 count(3)", x.count(3), 0);
        due("1 wipe", x.wipe(), 0);
        due("1 BAD", SkyClocks.BAD, -1);
        due("1 NO", SkyClocks.NO, -2);
        due("1 FULL", SkyClocks.FULL, -3);
        due("1 NONE", SkyClocks.NONE, -4);
        due("1 SPENT", SkyClocks.SPENT, -5);
        new SkyClocks().arrival(0, 1, 1, 1, 1);
        due("1 another object", x.many(0), 0);
    }

    private static void promise02() {
        SkyClocks x = new SkyClocks();
        due("2 first", x.arrival(0, 0, 0, 0, 0), 1);
        due("2 edges", x.arrival(0, 1000000, 1000, 2, 2000000), 2);
        due("2 another star", x.arrival(3, 5, 5, 1, 5), 1);
        int[][] wrong = {{-1, 0, 0, 0, 0}, {4, 0, 0, 0, 0}, {0, -1, 0, 0, 0}, {0, 1000001, 0, 0, 0}, {0, 0, -1, 0, 0},
            {0, 0, 1001, 0, 0}, {0, 0, 0, -1, 0}, {0, 0, 0, 3, 0}, {0, 0, 0, 0, -1}, {0, 0, 0, 0, 2000001},
            {Integer.MIN_VALUE, 0, 0, 0, 0}, {0, Integer.MAX_VALUE, 0, 0, 0}};
        for (int[] w : wrong) {
            due("2 BAD", x.arrival(w[0], w[1], w[2], w[3], w[4]), -1);
        }
        x.rule(1, 10);
        due("2 not yet known ones are told too", x.arrival(0, 7, 1, 0, 11), 3);
        for (int i = 4; i <= 24; i++) {
            due("2 up to 24", x.arrival(0, i, 0, 0, 0), i);
        }
        due("2 FULL", x.arrival(0, 1, 0, 0, 0), -3);
        due("2 BAD ahead of FULL", x.arrival(0, 1, 0, 0, -1), -1);
        due("2 nothing changed", x.many(0), 22);
        due("2 other stars are not full", x.arrival(1, 1, 0, 0, 0), 1);
        x = new SkyClocks();
        x.arrival(0, 50, 1, 0, 0);
        x.arrival(0, 20, 2, 0, 0);
        x.arrival(0, 50, 3, 0, 0);
        x.arrival(0, 20, 4, 0, 0);
        x.arrival(0, 70, 5, 0, 0);
        int[] errs = {2, 4, 1, 3, 5};
        for (int k = 0; k < 5; k++) {
            due("2 order of like ones", x.at(0, k, 1), errs[k]);
        }
    }

    private static void promise03() {
        SkyClocks x = new SkyClocks();
        due("3 none", x.clear(0), 0);
        x.arrival(0, 1, 1, 0, 0);
        x.arrival(0, 2, 1, 0, 500);
        x.arrival(1, 2, 1, 0, 500);
        x.rule(1, 100);
        due("3 those not yet known go too", x.clear(0), 2);
        x.rule(1, 2000000);
        due("3 gone", x.many(0), 0);
        due("3 others stay", x.many(1), 1);
        due("3 again", x.clear(0), 0);
        due("3 from the start", x.arrival(0, 9, 9, 1, 9), 1);
        due("3 only that", x.at(0, 0, 0), 9);
        due("3 low", x.clear(-1), -1);
        due("3 high", x.clear(4), -1);
    }

    private static void promise04() {
        SkyClocks x = new SkyClocks();
        due("4 was 0", x.offset(0, 1000), 0);
        due("4 was 1000", x.offset(0, -1000), 1000);
        due("4 was -1000", x.offset(0, 3), -1000);
        due("4 others", x.offset(2, 7), 0);
        due("4 high", x.offset(0, 1001), -100000);
        due("4 low", x.offset(0, -1001), -100000);
        due("4 instrument", x.offset(3, 0), -100000);
        due("4 instrument", x.offset(-1, 0), -100000);
        x.arrival(0, 100, 0, 0, 0);
        x.arrival(0, 200, 0, 2, 0);
        x.arrival(0, 300, 0, 1, 0);
        due("4 less", x.at(0, 0, 4), 97);
        due("4 by instrument", x.at(0, 1, 4), 193);
        due("4 none", x.at(0, 2, 4), 300);
    }

    private static void promise05() {
        SkyClocks x = new SkyClocks();
        due("5 was 0", x.shift(0, 10, 500), 0);
        due("5 was 500", x.shift(0, 10, -500), 500);
        due("5 was -500", x.shift(0, 10, 4), -500);
        due("5 other version", x.shift(1, 10, 6), 0);
        due("5 other bin", x.shift(0, 9, 8), 0);
        due("5 version", x.shift(2, 0, 0), -100000);
        due("5 version", x.shift(-1, 0, 0), -100000);
        due("5 bin", x.shift(0, 11, 0), -100000);
        due("5 bin", x.shift(0, -1, 0), -100000);
        due("5 high", x.shift(0, 0, 501), -100000);
        due("5 low", x.shift(0, 0, -501), -100000);
        x.arrival(0, 1000000, 0, 0, 0);
        x.arrival(0, 999999, 0, 0, 0);
        x.arrival(0, 900000, 0, 0, 0);
        x.arrival(0, 899999, 0, 0, 0);
        due("5 bin 8", x.at(0, 0, 4), 899999);
        due("5 bin 9", x.at(0, 1, 4), 900008);
        due("5 bin 9", x.at(0, 2, 4), 1000007);
        due("5 bin 10", x.at(0, 3, 4), 1000004);
        x.offset(0, 1000);
        x.shift(0, 9, 500);
        due("5 the bin is by AT", x.at(0, 1, 4), 899500);
    }

    private static void promise06() {
        SkyClocks x = new SkyClocks();
        due("6 version was", x.rule(0, 1), 0);
        due("6 version was", x.rule(0, 0), 1);
        due("6 as of was", x.rule(1, 0), 2000000);
        due("6 as of was", x.rule(1, 2000000), 0);
        int[][] wrong = {{-1, 0}, {2, 0}, {0, -1}, {0, 2}, {1, -1}, {1, 2000001}};
        for (int[] w : wrong) {
            due("6 BAD", x.rule(w[0], w[1]), -1);
        }
        due("6 nothing changed", x.rule(0, 0), 0);
        due("6 nothing changed", x.rule(1, 2000000), 2000000);
        x.arrival(0, 10, 0, 0, 1000);
        x.arrival(0, 20, 0, 0, 999);
        x.shift(0, 0, 3);
        x.shift(1, 0, -3);
        x.rule(1, 999);
        due("6 known by then", x.many(0), 1);
        due("6 told from 0 on", x.at(0, 0, 0), 20);
        due("6 by version 0", x.at(0, 0, 4), 23);
        x.rule(0, 1);
        due("6 by version 1", x.at(0, 0, 4), 17);
        x.arrival(0, 15, 0, 0, 999);
        due("6 a new one counts", x.at(0, 0, 0), 15);
        x.rule(1, 1000);
        due("6 at that time", x.many(0), 3);
        x.rule(1, 998);
        due("6 ahead of it", x.many(0), 0);
    }

    private static void promise07() {
        SkyClocks x = new SkyClocks();
        x.arrival(2, 123456, 7, 1, 200000);
        due("7 AT", x.at(2, 0, 0), 123456);
        due("7 ERR", x.at(2, 0, 1), 7);
        due("7 INSTRUMENT", x.at(2, 0, 2), 1);
        due("7 KNOWN", x.at(2, 0, 3), 200000);
        due("7 CORRECTED", x.at(2, 0, 4), 123456);
        x.offset(1, -56);
        x.shift(0, 1, 88);
        due("7 CORRECTED", x.at(2, 0, 4), 123600);
        due("7 no such", x.at(2, 1, 0), -100002);
        due("7 no such", x.at(2, 23, 4), -100002);
        due("7 none", x.at(0, 0, 0), -100002);
        int[][] wrong = {{-1, 0, 0}, {4, 0, 0}, {2, -1, 0}, {2, 24, 0}, {2, 0, -1}, {2, 0, 5}};
        for (int[] w : wrong) {
            due("7 BAD", x.at(w[0], w[1], w[2]), -100000);
        }
        x.rule(1, 199999);
        due("7 not known", x.at(2, 0, 0), -100002);
    }

    private static void promise08() {
        SkyClocks x = new SkyClocks();
        x.arrival(1, 5, 0, 0, 50);
        x.arrival(1, 6, 0, 0, 60);
        due("8 both", x.many(1), 2);
        due("8 others", x.many(0), 0);
        x.rule(1, 59);
        due("8 known by then", x.many(1), 1);
        due("8 low", x.many(-1), -1);
        due("8 high", x.many(4), -1);
    }

    private static void promise09() {
        SkyClocks x = new SkyClocks();
        due("9 low", x.write(0, 0), -1);
        due("9 high", x.write(9, 0), -1);
        due("9 one", x.write(1, 'p'), 1);
        due("9 highest first", x.write(7, 0x3130303030303BL), 8);
        due("9 read", x.fault(), -4);
        due("9 what is above n bytes is not asked for", x.write(1, -1L << 8 | 'z'), 9);
        due("9 read", x.write(2, 0x7777393BL), 11);
        due("9 read", x.fault(), -4);
        due("9 model", x.model(0), 2);
        due("9 zero", x.comes(0, 0), 9000000);
        for (int i = 0; i < 23; i++) {
            x.write(8, 0);
        }
        due("9 nearly full", x.count(2), 195);
        due("9 FULL", x.write(6, 0), -3);
        due("9 BAD ahead of FULL", x.write(9, 0), -1);
        due("9 nothing changed", x.count(2), 195);
        due("9 the last bytes", x.write(5, 0), 200);
        due("9 FULL", x.write(1, 0), -3);
        due("9 bytes above 127", fault("p100000;\u00fa1;"), 8);
    }

    private static void promise10() {
        SkyClocks x = new SkyClocks();
        Sky.write(x, "p100000;z");
        due("10 length", x.wipe(), 9);
        due("10 empty", x.wipe(), 0);
        due("10 empty", x.fault(), 0);
        Sky.write(x, "p100000;");
        due("10 from the start", x.fault(), -4);
        x.model(0);
        x.wipe();
        due("10 models stay", x.comes(0, 1), 100000000);
    }

    private static void promise11() {
        due("11 empty", fault(""), 0);
        due("11 least", fault("p100000;"), -4);
        due("11 greatest", fault("p100000000;"), -4);
        due("11 less", fault("p99999;"), 0);
        due("11 more", fault("p100000001;"), 0);
        due("11 no ;", fault("p100000"), 0);
        due("11 no p", fault("z5;p100000;"), 0);
        due("11 blank", fault(" p100000;"), 0);
        due("11 two p", fault("p100000;p100000;"), 8);
        due("11 ten figures", fault("p0000100000;"), 0);
        due("11 nine figures", fault("p000100000;"), -4);
        due("11 no figure", fault("p;"), 0);
        due("11 z edges", fault("p100000;z1000000;"), -4);
        due("11 z -0", fault("p100000;z-0;"), -4);
        due("11 z low", fault("p100000;z-1;"), 8);
        due("11 z high", fault("p100000;z1000001;"), 8);
        due("11 two z", fault("p100000;z1;z1;"), 11);
        due("11 d edges", fault("p100000;d-100000;"), -4);
        due("11 d edges", fault("p100000;d100000;"), -4);
        due("11 d low", fault("p100000;d-100001;"), 8);
        due("11 d high", fault("p100000;d100001;"), 8);
        due("11 two d", fault("p100000;d0;d0;"), 11);
        due("11 s edges", fault("p100000;s0,-50000;s1000000,50000;s5,0;"), -4);
        due("11 four s", fault("p100000;s1,1;s1,1;s1,1;s1,1;"), 23);
        due("11 s T low", fault("p100000;s-1,1;"), 8);
        due("11 s T high", fault("p100000;s1000001,1;"), 8);
        due("11 s N low", fault("p100000;s1,-50001;"), 8);
        due("11 s N high", fault("p100000;s1,50001;"), 8);
        due("11 s too few", fault("p100000;s1;"), 8);
        due("11 s too many", fault("p100000;s1,1,1;"), 8);
        due("11 c edges", fault("p100000;c4,-50000,50000,0,1;c1000,1,2,3,-50000;"), -4);
        due("11 three c", fault("p100000;c4,1,1,1,1;c4,1,1,1,1;c4,1,1,1,1;"), 30);
        due("11 c Q low", fault("p100000;c3,1,1,1,1;"), 8);
        due("11 c Q high", fault("p100000;c1001,1,1,1,1;"), 8);
        for (int i = 1; i < 5; i++) {
            String[] late = {"4", "1", "1", "1", "1"};
            late[i] = "50001";
            due("11 c high", fault("p100000;c" + String.join(",", late) + ";"), 8);
            late[i] = "-50001";
            due("11 c low", fault("p100000;c" + String.join(",", late) + ";"), 8);
        }
        due("11 c too few", fault("p100000;c4,1,1,1;"), 8);
        due("11 empty item", fault("p100000;;"), 8);
        due("11 another letter", fault("p100000;q5;"), 8);
        due("11 signs", fault("p100000;d--1;"), 8);
        due("11 signs", fault("p100000;d+1;"), 8);
        due("11 signs", fault("p100000;d-;"), 8);
        due("11 signs", fault("p100000;d1-;"), 8);
        due("11 unended", fault("p100000;d1;s5,5"), 11);
        due("11 the first of several", fault("p100000;d1;x;s5,5"), 11);
        String full = "p100000;" + "c1000,-50000,-50000,-50000,-50000;".repeat(2) + "s1000000,-50000;".repeat(3)
                + "z000000001;d000000001;";
        due("11 long", fault(full), -4);
    }

    private static void promise12() {
        SkyClocks x = new SkyClocks();
        Sky.write(x, "p200000;z3;s1,1;");
        due("12 items", x.model(0), 3);
        due("12 low", x.model(-1), -1);
        due("12 high", x.model(4), -1);
        due("12 for another", x.model(3), 3);
        x.write(1, 'x');
        due("12 FAULT", x.model(0), -2);
        due("12 BAD ahead of NO", x.model(4), -1);
        due("12 the old one stays", x.comes(0, 0), 3000000);
        due("12 no model by a FAULT", x.model(1), -2);
        due("12 no model by a FAULT", x.comes(1, 0), -2);
        due("12 another", Sky.model(x, 0, "p300000;"), 1);
        due("12 taken on", x.comes(0, 1), 300000000);
        due("12 the other's stays", x.comes(3, 0), 3000000);
        due("12 the other's stays", x.comes(3, 1), 203001000);
        due("12 models", x.count(1), 2);
    }

    private static void promise13() {
        SkyClocks x = new SkyClocks();
        Sky.model(x, 0, "p100000;z7;");
        due("13 zero", x.comes(0, 0), 7000000);
        due("13 one", x.comes(0, 1), 107000000);
        due("13 last", x.comes(0, 10000), 1000007000000L);
        due("13 n high", x.comes(0, 10001), -1);
        due("13 n low", x.comes(0, -1), -1);
        due("13 star", x.comes(4, 0), -1);
        due("13 star", x.comes(-1, 0), -1);
        due("13 no model", x.comes(1, 0), -2);
        Sky.model(x, 0, "p200000000;");
        due("13 the old stays", x.comes(0, 1), 107000000);
        Sky.model(x, 0, "p100000000;");
        due("13 the last that is there", x.comes(0, 20), 2000000000000L);
        due("13 none beyond", x.comes(0, 21), -2);
        Sky.model(x, 0, "p100000000;d1;");
        due("13 19 turns", x.comes(0, 19), 1900000000171L);
        due("13 a little beyond", x.comes(0, 20), -2);
        Sky.model(x, 1, "p100000;d-100000;");
        due("13 d: 0", x.comes(1, 1), 100000000);
        due("13 d: 1", x.comes(1, 2), 199900000);
        due("13 d: 2", x.comes(1, 3), 299700000);
        due("13 d: at 1000", x.comes(1, 991) - x.comes(1, 990), 1000000);
        due("13 d: at 990", x.comes(1, 990) - x.comes(1, 989), 1100000);
        due("13 d: least", x.comes(1, 10000) - x.comes(1, 9999), 1000000);
        Sky.model(x, 2, "p100000;s200,500;s200,-100;s201,7;");
        due("13 slips", x.comes(2, 2), 200000000);
        due("13 slips", x.comes(2, 3), 300400000);
        due("13 slips", x.comes(2, 4), 400807000);
        Sky.model(x, 3, "p100000;c4,1,2,3,4;");
        long[] late = {1000, 2000, 3000, 4000, 1000, 2000};
        for (int n = 0; n < 6; n++) {
            due("13 companion", x.comes(3, n), 100000000L * n + late[n]);
        }
        Sky.model(x, 3, "p100000;c6,1,2,3,4;c5,10,20,30,-40;");
        long[] both = {11000, 11000, 22000, 33000, -37000, 14000};
        for (int n = 0; n < 6; n++) {
            due("13 companions", x.comes(3, n), 100000000L * n + both[n]);
        }
        Sky.model(x, 3, "p100000;c4,-50000,0,0,0;");
        due("13 ahead of time 0", x.comes(3, 0), -50000000);
    }

    private static void promise14() {
        SkyClocks x = new SkyClocks();
        x.arrival(0, 1003, 1, 0, 0);
        due("14 no model", x.residue(0, 0), -1000000002);
        Sky.model(x, 0, "p1000000;d50000;");
        due("14 later", x.residue(0, 0), 3);
        due("14 no such", x.residue(0, 1), -1000000002);
        due("14 star", x.residue(-1, 0), -1000000000);
        due("14 star", x.residue(4, 0), -1000000000);
        due("14 k", x.residue(0, -1), -1000000000);
        due("14 k", x.residue(0, 24), -1000000000);
        x.offset(0, 7);
        due("14 by CORRECTED", x.residue(0, 0), -4);
        x.offset(0, 0);
        Sky.model(x, 1, "p100000;z1;c4,600,-600,0,0;");
        x.arrival(1, 4, 1, 0, 0);
        x.arrival(1, 99, 1, 0, 0);
        x.arrival(1, 100, 1, 0, 0);
        x.arrival(1, 101, 1, 0, 0);
        due("14 cut: 4 less 1.6", x.residue(1, 0), 2);
        due("14 cut: 99 less 100.4", x.residue(1, 1), -1);
        due("14 cut: 100 less 100.4", x.residue(1, 2), 0);
        due("14 cut: 101 less 100.4", x.residue(1, 3), 0);
        Sky.model(x, 2, "p100000;z1000000;");
        x.arrival(2, 0, 0, 0, 0);
        due("14 far ahead of all turns", x.residue(2, 0), -1000000);
        Sky.model(x, 2, "p100000;s0,-50000;s0,-50000;");
        x.clear(2);
        x.arrival(2, 1000000, 0, 0, 0);
        due("14 far behind all turns", x.residue(2, 0), 990000);
        x.shift(1, 10, -9);
        x.rule(0, 1);
        due("14 by THE VERSION", x.residue(2, 0), 989991);
    }

    private static void promise15() {
        SkyClocks x = new SkyClocks();
        Sky.model(x, 0, "p100000;");
        x.arrival(0, 50, 0, 0, 0);
        x.arrival(0, 51, 0, 0, 0);
        x.arrival(0, 149, 0, 0, 0);
        x.arrival(0, 1000000, 0, 0, 0);
        due("15 of two as near the lowest", x.turn(0, 0), 0);
        due("15 nearer", x.turn(0, 1), 1);
        due("15 nearer", x.turn(0, 2), 1);
        due("15 last", x.turn(0, 3), 10000);
        due("15 no such", x.turn(0, 4), -2);
        due("15 no model", x.turn(1, 0), -2);
        due("15 star", x.turn(4, 0), -1);
        due("15 star", x.turn(-1, 0), -1);
        due("15 k", x.turn(0, 24), -1);
        due("15 k", x.turn(0, -1), -1);
        // turns 0 and 1 come at 50 and 50, turns 2 and 3 at 250 and 250
        Sky.model(x, 0, "p100000;c4,50000,-50000,50000,-50000;");
        due("15 of two that come at once the lowest", x.turn(0, 0), 0);
        due("15 of two that come at once the lowest", x.turn(0, 2), 0);
        // turn 0 comes at 50, turn 1, which begins at 50, at 0, turn 2 at 100
        Sky.model(x, 1, "p100000;s0,-50000;c4,50000,-50000,0,0;");
        x.arrival(1, 1, 0, 0, 0);
        due("15 a later turn may come sooner", x.turn(1, 0), 1);
        // turns of 1 each, by companions up to 200 behind one another
        Sky.model(x, 2, "p100000;s0,-50000;s0,-49000;c1000,50000,-50000,50000,-50000;c1000,50000,-50000,50000,-50000;");
        x.arrival(2, 100, 0, 0, 0);
        x.arrival(2, 249, 0, 0, 0);
        x.arrival(2, 255, 0, 0, 0);
        due("15 turn 0 comes at 100", x.turn(2, 0), 0);
        due("15 turn 149 comes at 249", x.turn(2, 1), 149);
        due("15 turn 155 comes at 255", x.turn(2, 2), 155);
        // turns 0, 1, 2 begin at 0, 50, 100, and come at 100
        Sky.model(x, 3, "p100000;s0,-50000;c4,50000,25000,0,0;c4,50000,25000,0,0;");
        x.arrival(3, 100, 0, 0, 0);
        due("15 the lowest of three that come at once", x.turn(3, 0), 0);
        x.arrival(2, 350, 0, 0, 0);
        due("15 turn 450 comes at 350", x.turn(2, 3), 450);
    }

    private static SkyClocks three() {
        SkyClocks x = new SkyClocks();
        x.arrival(0, 1000, 5, 0, 0);
        x.arrival(0, 3000, 5, 0, 0);
        x.arrival(0, 101000, 5, 0, 0);
        return x;
    }

    private static void promise16() {
        SkyClocks x = three();
        due("16 star", x.ways(4, 100000, 100000), -1);
        due("16 star", x.ways(-1, 100000, 100000), -1);
        due("16 low", x.ways(0, 99999, 100000), -1);
        due("16 high", x.ways(0, 100000, 100000001), -1);
        due("16 low above high", x.ways(0, 100001, 100000), -1);
        due("16 no arrivals", x.ways(1, 100000, 100000), -2);
        x.arrival(1, 0, 0, 0, 0);
        due("16 one arrival", x.ways(1, 100000, 100000), -2);
        due("16 BAD ahead of NO", x.ways(1, 100000, 99999), -1);
        // count 2 asks for P from 995 to 1005, count c for 99990 / c to 100010 / c: 99.49.. to 100.51..
        due("16 one way", x.ways(0, 900000, 1100000), 1);
        due("16 its count", x.way(0, 1), 2);
        due("16 its count", x.way(0, 2), 100);
        due("16 narrow", x.ways(0, 1000100, 1000100), 1);
        due("16 narrow edge", x.ways(0, 1000101, 1000101), 0);
        due("16 narrow edge", x.ways(0, 999900, 999900), 1);
        due("16 narrow edge", x.ways(0, 999899, 999899), 0);
        x = new SkyClocks();
        x.arrival(0, 0, 0, 0, 0);
        x.arrival(0, 50000, 0, 0, 0);
        due("16 500 ways", x.ways(0, 100000, 50000000), 500);
        due("16 the lesser first", x.way(0, 1), 1);
        due("16 the lesser first", x.way(499, 1), 500);
        due("20 all 500 go on", x.left(2000000, 0), 500);
        due("21 all 500 are left", x.look(2000000, 1, 1, 0), 2000000);
        x.arrival(1, 0, 0, 0, 0);
        x.arrival(1, 50100, 0, 0, 0);
        due("16 501 ways", x.ways(1, 100000, 50100000), -5);
        due("16 501 ways less one", x.ways(1, 100001, 50100000), 500);
        due("16 any fraction", x.ways(1, 150149, 150151), 0);
        x.arrival(2, 0, 0, 0, 0);
        x.arrival(2, 1000, 0, 0, 0);
        due("16 P is 333.333..", x.ways(2, 333333, 333334), 1);
        due("16 P is 333.333..", x.way(0, 1), 3);
        // both counts must be by one PERIOD
        x.arrival(2, 2001, 0, 0, 0);
        due("16 one P for all", x.ways(2, 333333, 333334), 0);
        due("16 20000 tried", triedFrom(102559), 0);
        due("16 20001 tried", triedFrom(102558), -5);
    }

    /** No WAY goes on from ARRIVAL 3 to 4; up to 3 there are 20000 counts by PERIODS from 102559 on, 20001 from 102558. */
    private static int triedFrom(int low) {
        SkyClocks x = new SkyClocks();
        x.arrival(0, 0, 0, 0, 0);
        x.arrival(0, 400000, 73, 0, 0);
        x.arrival(0, 500000, 73, 0, 0);
        x.arrival(0, 1000000, 40, 0, 0);
        x.arrival(0, 1000000, 0, 0, 0);
        return x.ways(0, low, 100000000);
    }

    private static void promise17() {
        SkyClocks x = three();
        due("17 none asked", x.way(0, 0), -2);
        due("17 BAD ahead of NO", x.way(-1, 0), -1);
        due("17 k", x.way(0, -1), -1);
        due("17 k", x.way(0, 24), -1);
        x.ways(0, 900000, 1100000);
        due("17 count 0", x.way(0, 0), 0);
        due("17 count 1", x.way(0, 1), 2);
        due("17 count 2", x.way(0, 2), 100);
        due("17 no such arrival", x.way(0, 3), -2);
        due("17 not so many", x.way(1, 2), -4);
        due("17 not so many", x.way(1000000, 2), -4);
        due("17 NO ahead of NONE", x.way(1, 3), -2);
        x.clear(0);
        due("17 they stay", x.way(0, 2), 100);
        due("17 NO changes nothing", x.ways(0, 900000, 1100000), -2);
        due("17 BAD changes nothing", x.ways(0, 0, 1100000), -1);
        due("17 they stay", x.way(0, 2), 100);
        x.arrival(1, 0, 0, 0, 0);
        x.arrival(1, 1000000, 0, 0, 0);
        due("17 SPENT", x.ways(1, 100000, 100000000), -5);
        due("17 SPENT", x.way(0, 0), -2);
    }

    private static void promise18() {
        SkyClocks x = three();
        due("18 none asked", x.sure(0), -2);
        due("18 k", x.sure(-1), -1);
        due("18 k", x.sure(24), -1);
        due("18 ways", x.ways(0, 990000, 1008000), 1);
        due("18 sure", x.sure(1), 2);
        x.arrival(0, 900000, 5, 0, 0);
        // P from 999.9 to 1000.1: 898990 / P to 899010 / P is 898.9 to 899.1
        due("18 ways", x.ways(0, 990000, 1008000), 1);
        due("18 sure", x.sure(3), 899);
        x.clear(0);
        x.arrival(0, 0, 5, 0, 0);
        x.arrival(0, 1000, 5, 0, 0);
        x.arrival(0, 200000, 5, 0, 0);
        // P from 990 to 1010: 199990 / 1010 = 198.01.. to 200010 / 990 = 202.03..: 199 to 202
        due("18 ways", x.ways(0, 900000, 1100000), 4);
        due("18 order", x.way(0, 2), 199);
        due("18 order", x.way(3, 2), 202);
        due("18 count 0 is sure", x.sure(0), 0);
        due("18 count 1 is sure", x.sure(1), 1);
        due("18 count 2 is not", x.sure(2), -4);
        due("18 no such", x.sure(3), -2);
        due("18 two ways", x.ways(0, 999000, 1010000), 2);
        due("18 one of two by itself", x.sure(2), -4);
        due("18 no way", x.ways(0, 800000, 800000), 0);
        due("18 no way", x.sure(0), -4);
        due("18 no such ahead of no way", x.sure(3), -2);
        x.arrival(1, 0, 0, 0, 0);
        x.arrival(1, 1000000, 0, 0, 0);
        x.ways(1, 100000, 100000000);
        due("18 SPENT", x.sure(0), -2);
    }

    private static void promise19() {
        SkyClocks x = new SkyClocks();
        due("19 none asked", x.fit(0, 0), NO_LONG);
        due("19 what", x.fit(0, 5), BAD_LONG);
        due("19 what", x.fit(0, -1), BAD_LONG);
        due("19 i", x.fit(-1, 0), BAD_LONG);
        x.arrival(0, 100, 3, 0, 0);
        x.arrival(0, 1104, 5, 0, 0);
        x.arrival(0, 2100, 4, 0, 0);
        due("19 ways", x.ways(0, 990000, 1010000), 1);
        // y = 1000, x = 3304 / 3 - 1000 = 304 / 3; misses: -4/3, 8/3, -4/3
        due("19 x", x.fit(0, 0), 304);
        due("19 x below", x.fit(0, 1), 3);
        due("19 y", x.fit(0, 2), 1000);
        due("19 y below", x.fit(0, 3), 1);
        due("19 outside", x.fit(0, 4), 0);
        due("19 no such", x.fit(1, 0), NO_LONG);
        x.clear(0);
        due("19 as they were then", x.fit(0, 4), 0);
        x.arrival(0, 100, 1, 0, 0);
        x.arrival(0, 1104, 5, 0, 0);
        x.arrival(0, 2100, 1, 0, 0);
        due("19 ways", x.ways(0, 990000, 1010000), 1);
        due("19 outside", x.fit(0, 4), 2);
        x.clear(0);
        x.offset(1, 1000);
        x.arrival(0, 500, 0, 1, 0);
        x.arrival(0, 1500, 0, 1, 0);
        due("19 below 0", x.ways(0, 1000000, 1000000), 1);
        due("19 below 0", x.fit(0, 0), -500);
        due("19 below 0", x.fit(0, 1), 1);
        due("19 exact", x.fit(0, 4), 0);
        x.offset(1, 500);
        x.ways(0, 1000000, 1000000);
        due("19 x of 0", x.fit(0, 0), 0);
        due("19 x of 0", x.fit(0, 1), 1);
        x.arrival(1, 0, 0, 0, 0);
        x.arrival(1, 1000000, 0, 0, 0);
        x.ways(1, 100000, 100000000);
        due("19 SPENT", x.fit(0, 0), NO_LONG);
    }

    private static SkyClocks four() {
        SkyClocks x = new SkyClocks();
        x.arrival(0, 0, 5, 0, 0);
        x.arrival(0, 1000, 5, 0, 0);
        x.arrival(0, 200000, 5, 0, 0);
        x.ways(0, 900000, 1100000);
        return x;
    }

    private static void promise20() {
        due("20 none asked", new SkyClocks().left(0, 0), -2);
        SkyClocks x = four();
        due("20 t low", x.left(-1, 0), -1);
        due("20 t high", x.left(2000001, 0), -1);
        due("20 e low", x.left(200000, -1), -1);
        due("20 e high", x.left(200000, 1001), -1);
        due("20 ahead of the last", x.left(199999, 1000), -2);
        due("20 at the last", x.left(200000, 0), 0);
        // PERIODS of counts 199 to 202: 1004.97.. to 1005.07.., 999.95 to 1000.05, 994.97.. to 995.07.., 990.05 to 990.14..
        // by 209 to 212 counts: 210039.6.. to 210060.4, 209989.5 to 210010.5, 209939.5 to 209960.5, 209889.6 to 209911
        due("20 one goes on", x.left(210000, 0), 1);
        due("20 three go on", x.left(210000, 36), 3);
        due("20 the next turn is near for all", x.left(201000, 0), 4);
        due("20 none goes on", x.left(200500, 100), 0);
        due("20 all go on", x.left(2000000, 1000), 4);
        x.clear(0);
        x.offset(0, 100);
        due("20 as they were then", x.left(210000, 0), 1);
        x.arrival(1, 1, 0, 0, 0);
        x.arrival(1, 50, 0, 1, 0);
        due("20 no way", x.ways(1, 100000, 100000), 0);
        due("20 no way", x.left(50, 0), 0);
        due("20 no way, ahead", x.left(49, 0), -2);
        x.clear(1);
        x.arrival(1, 100, 0, 0, 0);
        x.arrival(1, 1000100, 0, 0, 0);
        x.arrival(1, 1000000, 0, 0, 0);
        x.ways(1, 100000, 100000000);
        due("20 SPENT", x.left(2000000, 0), -2);
    }

    private static void promise21() {
        due("21 none asked", new SkyClocks().look(0, 1, 1, 0), -2);
        SkyClocks x = four();
        int[][] wrong = {{-1, 1, 1, 0}, {2000001, 1, 1, 0}, {200000, 0, 1, 0}, {200000, 100001, 1, 0}, {200000, 1, 0, 0},
            {200000, 1, 21, 0}, {200000, 1, 1, -1}, {200000, 1, 1, 1001}, {1999999, 1, 3, 0}, {1000000, 100000, 12, 0},
            {Integer.MAX_VALUE, 1, 1, 0}, {0, Integer.MAX_VALUE, 20, 0}};
        for (int[] w : wrong) {
            due("21 BAD", x.look(w[0], w[1], w[2], w[3]), -1);
        }
        due("21 ahead of the last", x.look(199999, 1, 20, 5), -2);
        due("21 none is left", x.look(200400, 1, 20, 5), -4);
        // at 201000 all 4 go on, at 210000 one does
        due("21 fewest", x.look(201000, 9000, 2, 0), 210000);
        due("21 fewest", x.look(201000, 1000, 20, 0), bestBy(x, 201000, 1000, 20, 0));
        due("21 the earliest of several", x.look(201000, 1, 20, 1000), 201000);
        due("21 not one that leaves none", x.look(200500, 500, 2, 0), 201000);
        due("21 the greatest step", x.look(1000000, 100000, 11, 1000), 1000000);
        due("21 up to the end", x.look(1999981, 1, 20, 1000), 1999981);
        due("21 the last look", x.look(200000, 1000, 2, 0), 201000);
        due("21 as many as told", x.look(200000, 1000, 1, 0), -4);
        x.arrival(1, 0, 0, 0, 0);
        x.arrival(1, 1000000, 0, 0, 0);
        x.ways(1, 100000, 100000000);
        due("21 SPENT", x.look(1000000, 1, 1, 0), -2);
        due("21 BAD ahead of NO", x.look(1000000, 1, 0, 0), -1);
    }

    private static int bestBy(SkyClocks x, int t, int step, int n, int e) {
        int best = -4;
        int fewest = 501;
        for (int i = 0; i < n; i++) {
            int some = x.left(t + i * step, e);
            if (some > 0 && some < fewest) {
                fewest = some;
                best = t + i * step;
            }
        }
        return best;
    }

    private static void promise22() {
        due("22 star", new SkyClocks().slip(-1), -1);
        due("22 star", new SkyClocks().slip(4), -1);
        due("22 no model", new SkyClocks().slip(0), -2);
        due("22 too few", Sky.withResidues(1, 2, 3).slip(0), -2);
        due("22 four", Sky.withResidues(9, 0, 0, 0).slip(0), 2);
        due("22 of like ones the least", Sky.withResidues(5, 5, 5, 5, 5, 5).slip(0), 2);
        due("22 a slip", Sky.withResidues(0, 0, 0, 7, 7, 7, 7, 7).slip(0), 3);
        due("22 a slip down", Sky.withResidues(7, 7, 7, 7, 7, 7, 0, 0).slip(0), 6);
        due("22 not ahead of 2", Sky.withResidues(9, 0, 0, 0, 0, 0).slip(0), 2);
        due("22 not behind n - 2", Sky.withResidues(0, 0, 0, 0, 0, 9).slip(0), 4);
        // n = 5: k 2: (5 * 3 - 2 * 7)^2 / 6 = 1/6, k 3: (5 * 4 - 3 * 7)^2 / 6 = 1/6
        due("22 as great", Sky.withResidues(1, 2, 1, 1, 2).slip(0), 2);
        // n = 6, all: 0; k 2: (6 * 17)^2 / 8, k 3: (6 * 18)^2 / 9
        due("22 by weights", Sky.withResidues(8, 9, 1, -6, -6, -6).slip(0), 2);
        // n = 6, all: 6; k 2: 36 / 8, k 3: 36 / 9, k 4: 0
        due("22 by less than 1", Sky.withResidues(2, 1, 1, 0, 1, 1).slip(0), 2);
        due("22 by less than 1, from behind", Sky.withResidues(1, 1, 0, 1, 1, 2).slip(0), 4);
        SkyClocks x = new SkyClocks();
        Sky.model(x, 0, "p100000;s0,-50000;s0,-50000;");
        for (int i = 0; i < 12; i++) {
            x.arrival(0, 0, 0, 0, 0);
            x.arrival(0, 1000000, 0, 0, 0);
        }
        due("22 of the greatest RESIDUES", x.slip(0), 12);
    }

    private static void promise23() {
        due("23 star", new SkyClocks().falseShare(-1), -1);
        due("23 star", new SkyClocks().falseShare(4), -1);
        due("23 no model", new SkyClocks().falseShare(0), -2);
        due("23 too few", Sky.withResidues(1, 2, 3).falseShare(0), -2);
        due("23 all", Sky.withResidues(0, 0, 0, 0).falseShare(0), 16);
        due("23 the clearest slip", Sky.withResidues(-5, -5, 5, 5).falseShare(0), 2);
        due("23 no slip at all", Sky.withResidues(5, 5, 5, 5).falseShare(0), 16);
        // n = 4, k = 2: (2 (a + b) - 2 (c + d))^2: of 9, 0, 0, 0 all rows are as great
        due("23 one by itself", Sky.withResidues(9, 0, 0, 0).falseShare(0), 16);
        // (3 + 1 - (1 + 1))^2 = 4: sums of +-3 +-1 less +-1 +-1 of size 2 at least: all but those of size 0
        due("23 some", Sky.withResidues(3, 1, 1, 1).falseShare(0), 14);
        due("23 twelve", Sky.withResidues(-5, -5, -5, -5, -5, -5, 5, 5, 5, 5, 5, 5).falseShare(0), 2);
        due("23 thirteen", Sky.withResidues(-5, -5, -5, -5, -5, -5, 5, 5, 5, 5, 5, 5, 5).falseShare(0), -2);
        due("23 thirteen slip", Sky.withResidues(-5, -5, -5, -5, -5, -5, 5, 5, 5, 5, 5, 5, 5).slip(0), 6);
    }

    private static void promise24() {
        SkyClocks x = new SkyClocks();
        due("24 star", x.hum(-1, 0), BAD_LONG);
        due("24 star", x.hum(0, 4), BAD_LONG);
        due("24 alike", x.hum(2, 2), BAD_LONG);
        due("24 no model", x.hum(0, 1), NO_LONG);
        Sky.residues(x, 0, 3, -4, 5, 1, 1, 1, 1, 100);
        due("24 no model", x.hum(0, 1), NO_LONG);
        Sky.residues(x, 1, 2);
        due("24 too few", x.hum(0, 1), NO_LONG);
        x.arrival(1, 2006, 1, 0, 0);
        due("24 as many as both have", x.hum(0, 1), 3 * 2 - 4 * 6);
        due("24 turned", x.hum(1, 0), 3 * 2 - 4 * 6);
        Sky.residues(x, 2, 1, 1, 1, 1, 1, 1, 10, 100, 100);
        due("24 seven at most", x.hum(0, 2), 3 - 4 + 5 + 1 + 1 + 1 + 10);
    }

    private static void promise25() {
        SkyClocks x = new SkyClocks();
        due("25 star", x.shuffled(-1, 0), -1);
        due("25 star", x.shuffled(0, 4), -1);
        due("25 alike", x.shuffled(2, 2), -1);
        due("25 no model", x.shuffled(0, 1), -2);
        Sky.residues(x, 0, 1, 2, 3, 4, 5, 6, 7, 100);
        Sky.residues(x, 1, 1, 2, 3, 4, 5, 6, 7, 100);
        due("25 the greatest of 5040", x.shuffled(0, 1), 1);
        Sky.residues(x, 2, 7, 6, 5, 4, 3, 2, 1);
        due("25 the least of 5040", x.shuffled(0, 2), 5040);
        Sky.residues(x, 3, 1, 1, 2);
        // of 1, 1, 2 by 1, 2, 3: the like ones in both orders
        due("25 like ones", x.shuffled(0, 3), 2);
        due("25 like ones", x.shuffled(3, 0), 2);
        x.clear(3);
        x.arrival(3, 1001, 1, 0, 0);
        due("25 too few", x.shuffled(0, 3), -2);
        x.arrival(3, 2001, 1, 0, 0);
        due("25 two alike", x.shuffled(0, 3), 2);
    }

    private static void promise26() {
        SkyClocks x = new SkyClocks();
        int[][] wrong = {{-1, 0}, {0, -1}, {3, 0}, {0, 3}, {1, 1}};
        for (int[] w : wrong) {
            due("26 BAD", x.between(w[0], w[1]), -10000000);
        }
        due("26 none", x.between(0, 1), -10000002);
        x.arrival(0, 1003, 1, 0, 0);
        x.arrival(0, 1000, 1, 1, 0);
        due("26 no model", x.between(0, 1), -10000002);
        Sky.model(x, 0, "p1000000;");
        due("26 one", x.between(0, 1), 3);
        due("26 turned", x.between(1, 0), -3);
        x.arrival(0, 2010, 1, 0, 0);
        due("26 not of another turn", x.between(0, 1), 3);
        x.arrival(0, 2000, 1, 1, 0);
        due("26 of two the lesser", x.between(0, 1), 3);
        due("26 of two the lesser", x.between(1, 0), -10);
        Sky.model(x, 3, "p2000000;");
        x.arrival(3, 4020, 1, 0, 0);
        x.arrival(3, 4000, 1, 1, 0);
        due("26 over all stars", x.between(0, 1), 10);
        x.arrival(3, 4001, 1, 1, 0);
        due("26 all pairs", x.between(0, 1), 10);
        x.arrival(3, 4002, 1, 1, 0);
        due("26 all pairs", x.between(0, 1), 18);
        x.offset(0, 15);
        due("26 AT, not CORRECTED", x.between(0, 1), 18);
        x.offset(0, 600);
        // 2010 turns with 1000 then, 1003 with none
        due("26 THE TURN by CORRECTED", x.between(0, 1), 19);
        x.rule(1, 0);
        x.arrival(3, 4500, 1, 0, 1);
        due("26 those that count", x.between(0, 1), 19);
        due("26 none by that one", x.between(0, 2), -10000002);
        for (int s = 0; s < 4; s++) {
            x.clear(s);
            Sky.model(x, s, "p100000000;");
            for (int i = 0; i < 12; i++) {
                x.arrival(s, 100 + i + 12 * s, 1, 0, 0);
                x.arrival(s, 50, 1, 1, 0);
            }
        }
        x.offset(0, 0);
        due("26 the most pairs", x.between(0, 1), 50 + 23);
        due("26 the most pairs", x.between(1, 0), -50 - 24);
    }

    private static void promise27() {
        SkyClocks x = new SkyClocks();
        int[][] wrong = {{-1, 0, 1}, {0, 3, 1}, {0, 1, 3}, {0, 0, 1}, {0, 1, 1}, {1, 0, 1}};
        for (int[] w : wrong) {
            due("27 BAD", x.loop(w[0], w[1], w[2]), -10000000);
        }
        due("27 none", x.loop(0, 1, 2), -10000002);
        Sky.model(x, 0, "p1000000;");
        x.arrival(0, 1003, 1, 0, 0);
        x.arrival(0, 1000, 1, 1, 0);
        due("27 two lack", x.loop(0, 1, 2), -10000002);
        x.arrival(0, 2001, 1, 1, 0);
        x.arrival(0, 2000, 1, 2, 0);
        due("27 one lacks", x.loop(0, 1, 2), -10000002);
        due("27 one lacks", x.loop(1, 0, 2), -10000002);
        due("27 one lacks", x.loop(0, 2, 1), -10000002);
        x.arrival(0, 3010, 1, 0, 0);
        x.arrival(0, 3000, 1, 2, 0);
        due("27 how it closes", x.loop(0, 1, 2), 3 + 1 - 10);
        due("27 the other way round", x.loop(2, 1, 0), -1 - 3 + 10);
        due("27 from another", x.loop(1, 0, 2), -3 + 10 - 1);
    }

    private static void promise28() {
        SkyClocks x = new SkyClocks();
        due("28 star", x.moved(-1), -1);
        due("28 star", x.moved(4), -1);
        due("28 no model", x.moved(0), -2);
        Sky.model(x, 0, "p1000000;");
        due("28 none", x.moved(0), 0);
        x.arrival(0, 1000, 1, 0, 0);
        x.arrival(0, 101000, 1, 0, 0);
        x.arrival(0, 201000, 1, 0, 300000);
        x.shift(0, 0, 1);
        x.shift(1, 0, -3);
        x.shift(1, 1, 7);
        x.shift(0, 2, 100);
        due("28 sizes", x.moved(0), 4 + 7 + 100);
        x.rule(0, 1);
        due("28 whatever THE VERSION is", x.moved(0), 4 + 7 + 100);
        x.rule(1, 299999);
        due("28 those that count", x.moved(0), 4 + 7);
        x.offset(0, -497);
        // 1000 + 497 + 1 and - 3; 101497 and 101504, of which the latter is nearer to the next turn
        due("28 to another turn", x.moved(0), 4 + 993);
    }

    private static void promise29() {
        SkyClocks x = new SkyClocks();
        due("29 star", x.alarm(-1), -1);
        due("29 star", x.alarm(4), -1);
        due("29 no model", x.alarm(0), -2);
        Sky.model(x, 0, "p1000000;");
        due("29 no arrivals", x.alarm(0), -4);
        x.arrival(0, 1003, 1, 0, 9000);
        due("29 not above three times", x.alarm(0), -4);
        x.arrival(0, 3004, 1, 0, 8000);
        due("29 above", x.alarm(0), 1);
        x.arrival(0, 1996, 1, 0, 7999);
        due("29 by KNOWN, of either sign", x.alarm(0), 1);
        x.arrival(0, 4010, 1, 0, 5000);
        due("29 by KNOWN", x.alarm(0), 3);
        x.arrival(0, 5010, 1, 0, 5000);
        due("29 of like ones the first", x.alarm(0), 3);
        x.arrival(0, 500, 1000, 0, 1);
        due("29 a place further", x.alarm(0), 4);
        x.rule(1, 4999);
        due("29 those that count", x.alarm(0), -4);
        x.arrival(1, 1000, 0, 0, 0);
        Sky.model(x, 1, "p1000000;");
        due("29 ERR 0", x.alarm(1), -4);
        x.offset(0, 1);
        due("29 ERR 0", x.alarm(1), 0);
    }

    private static void promise30() {
        SkyClocks x = new SkyClocks();
        due("30 low", x.count(-1), -1);
        due("30 high", x.count(4), -1);
        x.arrival(0, 0, 0, 0, 5);
        x.arrival(0, 1000, 0, 0, 5);
        x.arrival(3, 0, 0, 0, 6);
        due("30 arrivals", x.count(0), 3);
        x.rule(1, 5);
        due("30 arrivals", x.count(0), 2);
        Sky.model(x, 0, "p100000;");
        Sky.model(x, 0, "p100000;");
        Sky.model(x, 2, "p100000;d1;");
        due("30 models", x.count(1), 2);
        due("30 bytes", x.count(2), 11);
        due("30 ways", x.ways(0, 100000, 500000), 9);
        due("30 ways", x.count(3), 9);
        x.arrival(0, 60100, 0, 0, 0);
        x.clear(0);
        due("30 they stay", x.count(3), 9);
        x.arrival(0, 0, 0, 0, 0);
        x.arrival(0, 60100, 0, 0, 0);
        due("30 SPENT", x.ways(0, 100000, 100000000), -5);
        due("30 SPENT", x.count(3), 0);
    }

    public static void main(String[] args) {
        promise01(); promise02(); promise03(); promise04(); promise05();
        promise06(); promise07(); promise08(); promise09(); promise10();
        promise11(); promise12(); promise13(); promise14(); promise15();
        promise16(); promise17(); promise18(); promise19(); promise20();
        promise21(); promise22(); promise23(); promise24(); promise25();
        promise26(); promise27(); promise28(); promise29(); promise30();
        DUE.end();
    }
}
