/** The sentences of promises 9 to 15 that name an edge, each with a test of its own. */
public final class TextSentencesTest {
    private static final int LEAST = Integer.MIN_VALUE, GREATEST = Integer.MAX_VALUE, NONE = -4;
    private static final Sentences S = new Sentences();

    private static void due(long got, long want) {
        S.due(got, want);
    }

    private static void faultOf(String text, int want) {
        S.due(Sky.fault(new SkyClocks(), text), want);
    }

    /** All these ITEMS are as told behind a p ITEM, and as far as a MODEL goes. */
    private static void told(String... items) {
        for (String item : items) {
            faultOf("p100000;" + item, NONE);
        }
    }

    /** Each of these ITEMS is not as told. */
    private static void notTold(String... items) {
        for (String item : items) {
            faultOf("p100000;" + item, 8);
        }
    }

    /** 199 bytes, or 200: all ITEMS that there may be, without FAULT. */
    private static String longText(String zero) {
        return "p100000;" + "c000001000,-000050000,-000050000,-000050000,-000050000;".repeat(2)
                + "s001000000,-000050000;".repeat(3) + zero + "d-000100000;";
    }

    private static void write() {
        S.test(9, "n bytes (1 to 8) of v", x -> {
            for (int n : new int[] {LEAST, -1, 0, 9, GREATEST}) {
                due(x.write(n, 0), -1);
            }
            due(x.count(2), 0);
            due(x.write(1, 0), 1);
            due(x.write(8, 0), 9);
            due(x.write(2, Long.MIN_VALUE), 11);
            due(x.write(7, -1), 18);
        });
        S.test(9, "the highest first, come behind THE TEXT: how long it is", x -> {
            String text = "p123456;";
            for (int n = 1; n <= 8; n++) {
                x.wipe();
                long v = n < 8 ? -1L : 0;
                for (int i = 0; i < n; i++) {
                    v = v << 8 | text.charAt(i);
                }
                due(x.write(n, v), n);
                for (int i = n; i < 8; i++) {
                    due(x.write(1, text.charAt(i)), i + 1);
                }
                due(x.fault(), NONE);
                due(x.model(0), 1);
                due(x.comes(0, 1), 123456000);
            }
        });
        S.test(9, "A TEXT are bytes (200 at most)", x -> {
            for (int i = 1; i <= 25; i++) {
                due(x.write(8, 0), 8 * i);
            }
            for (int n = 1; n <= 8; n++) {
                due(x.write(n, 0), -3);
            }
            due(x.count(2), 200);
            due(x.wipe(), 200);
            due(x.write(8, 0), 8);
        });
        S.test(9, "A TEXT are bytes (200 at most)", x -> {
            for (int i = 0; i < 24; i++) {
                x.write(8, 0);
            }
            due(x.write(1, 0), 193);
            due(x.write(8, 0), -3);
            due(x.count(2), 193);
            due(x.write(7, 0), 200);
            due(x.write(1, 0), -3);
            due(x.count(2), 200);
        });
        S.test(9, "A TEXT are bytes (200 at most)", x -> {
            due(longText("z10;").length(), 200);
            Sky.write(x, longText("z10;"));
            due(x.count(2), 200);
            due(x.write(1, 'x'), -3);
            due(x.write(8, 0), -3);
            due(x.fault(), NONE);
            due(x.model(3), 8);
        });
        S.test(9, "how long it is. BAD; FULL.", x -> {
            Sky.write(x, longText("z10;"));
            due(x.write(0, 0), -1);
            due(x.write(9, 0), -1);
            due(x.write(1, 0), -3);
            due(x.fault(), NONE);
        });
    }

    private static void wipe() {
        S.test(10, "THE TEXT is empty: how long it was.", x -> {
            due(x.wipe(), 0);
            x.write(1, 'p');
            due(x.wipe(), 1);
            due(x.wipe(), 0);
            due(x.count(2), 0);
            due(x.fault(), 0);
            Sky.write(x, longText("z10;"));
            due(x.wipe(), 200);
            due(x.fault(), 0);
            due(x.model(0), -2);
            Sky.write(x, "p100000;");
            due(x.fault(), NONE);
        });
        S.test(10, "THE TEXT is empty: how long it was.", x -> {
            Sky.model(x, 0, "p100000;z7;");
            due(x.wipe(), 11);
            due(x.count(1), 1);
            due(x.comes(0, 0), 7000000);
        });
    }

    private static void items() {
        S.test(11, "ITEMS, each ending with ; .", x -> {
            faultOf("p100000", 0);
            faultOf("p100000;", NONE);
            faultOf("p100000;;", 8);
            faultOf("p100000;z1", 8);
            faultOf("p100000;z1;", NONE);
            faultOf("p100000;z1;;", 11);
            faultOf("p100000;z1 ;", 8);
            faultOf("p100000; z1;", 8);
            faultOf("p100000,", 0);
            faultOf("p100000;s1,1", 8);
            faultOf("p100000;s1,1,", 8);
            faultOf("p100000;c4,1,1,1,1", 8);
            faultOf("p100000;c4,1,1,1,1,", 8);
            faultOf(";", 0);
        });
        S.test(11, "Numbers have an optional - ahead and one figure to nine", x -> {
            told("d0;", "d-0;", "z-0;", "d9;", "d-9;", "d000000001;", "d-000000001;", "d-000100000;", "s-0,-0;");
            notTold("d;", "d-;", "d--1;", "d+1;", "d1-;", "d- 1;", "d0000000001;", "d-0000000001;", "d0000000000;", "d1.0;");
            notTold("d/;", "d:;", "d1/;", "d1:;", "dA;", "d\u00b1;", "d\u0000;");
            notTold("s,1;", "s1,;", "s1,-;", "c4,1,1,1,;", "c,1,1,1,1;", "c4,,1,1,1;");
            faultOf("p000100000;", NONE);
            faultOf("p0000100000;", 0);
            faultOf("p999999999;", 0);
            faultOf("p1000000000;", 0);
            faultOf("p-100000;", 0);
            faultOf("p;", 0);
        });
        S.test(11, "Numbers have an optional - ahead and one figure to nine", x -> {
            notTold("z999999999;", "z-999999999;", "d999999999;", "d-999999999;", "s999999999,0;", "s0,-999999999;",
                    "c999999999,1,1,1,1;", "c4,1,1,1,999999999;");
            notTold("z4294967296;", "d4294967297;", "z2147483648;", "d-2147483649;");
        });
    }

    private static void rangesOfItems() {
        S.test(11, "PERIOD (100000 to 100000000, thousandths)", x -> {
            faultOf("p100000;", NONE);
            faultOf("p99999;", 0);
            faultOf("p100000000;", NONE);
            faultOf("p100000001;", 0);
            faultOf("p0;", 0);
        });
        S.test(11, "just once, the first ITEM", x -> {
            faultOf("p100000;p100000;", 8);
            faultOf("p100000;z1;p100000;", 11);
            faultOf("z1;p100000;", 0);
            faultOf("d1;z1;", 0);
        });
        S.test(11, "the time of turn 0 (0 to 1000000); once at most", x -> {
            told("z0;", "z1000000;");
            notTold("z-1;", "z1000001;");
            faultOf("p100000;z1;z1;", 11);
            faultOf("p100000;z0;d1;z0;", 14);
        });
        S.test(11, "millionths (-100000 to 100000)", x -> {
            told("d-100000;", "d100000;");
            notTold("d-100001;", "d100001;");
        });
        S.test(11, "each turn takes longer than the one ahead; once at most", x -> {
            told("d1;", "d1;z1;");
            faultOf("p100000;d1;d1;", 11);
            faultOf("p100000;d0;z1;d0;", 14);
        });
        S.test(11, "turns that begin at time T (0 to 1000000) or later", x -> {
            told("s0,1;", "s1000000,1;");
            notTold("s-1,1;", "s1000001,1;");
        });
        S.test(11, "take N thousandths (-50000 to 50000) longer", x -> {
            told("s1,-50000;", "s1,50000;");
            notTold("s1,-50001;", "s1,50001;");
        });
        S.test(11, "longer; 3 at most", x -> {
            told("s1,1;s1,1;s1,1;", "s3,1;s2,1;s1,1;");
            faultOf("p100000;s1,1;s1,1;s1,1;s1,1;", 23);
            faultOf("p100000;s1,1;s1,1;z1;s1,1;d1;s1,1;", 29);
        });
        S.test(11, "of Q turns (4 to 1000)", x -> {
            told("c4,1,1,1,1;", "c1000,1,1,1,1;");
            notTold("c3,1,1,1,1;", "c1001,1,1,1,1;", "c0,1,1,1,1;", "c-4,1,1,1,1;");
        });
        S.test(11, "thousandths (-50000 to 50000 each) later", x -> {
            told("c4,-50000,-50000,-50000,-50000;", "c4,50000,50000,50000,50000;");
            notTold("c4,-50001,0,0,0;", "c4,0,-50001,0,0;", "c4,0,0,-50001,0;", "c4,0,0,0,-50001;");
            notTold("c4,50001,0,0,0;", "c4,0,50001,0,0;", "c4,0,0,50001,0;", "c4,0,0,0,50001;");
        });
        S.test(11, "of Q turns (4 to 1000); 2 at most", x -> {
            told("c4,1,1,1,1;c4,1,1,1,1;");
            faultOf("p100000;c4,1,1,1,1;c4,1,1,1,1;c4,1,1,1,1;", 30);
        });
        S.test(11, "cQ,A,B,C,D a COMPANION", x -> {
            notTold("c4;", "c4,1;", "c4,1,1;", "c4,1,1,1;", "c4,1,1,1,1,1;", "c;", "c4,1,1,1;1;", "c4;1,1,1,1;");
        });
        S.test(11, "sT,N a SLIP", x -> {
            notTold("s1;", "s1,1,1;", "s;", "s1;1;");
            notTold("z1,1;", "d1,1;");
            faultOf("p100000,1;", 0);
        });
    }

    private static void fault() {
        S.test(11, "FAULT is the place of the first byte of the first ITEM that is not as told", x -> {
            for (char letter = 0; letter < 256; letter++) {
                boolean isNumber = letter == 'z' || letter == 'd';
                faultOf("p100000;" + letter + "5;", isNumber ? NONE : 8);
            }
            faultOf("P100000;", 0);
            faultOf("\u00f0100000;", 0);
        });
        S.test(11, "FAULT is the place of the first byte of the first ITEM that is not as told", x -> {
            faultOf("p100000;d1;x;s5", 11);
            faultOf("p100000;d1;s5", 11);
            faultOf("p99999;x;", 0);
            faultOf("p100000;s0,0;c4,1,1,1,1;z1000001;d1;", 24);
        });
        S.test(11, "FAULT is the place of the first byte of the first ITEM that is not as told", x -> {
            due(longText("z1;").length(), 199);
            due(Sky.fault(x, longText("z1;") + "x"), 199);
            due(Sky.fault(x, longText("z1;") + ";"), 199);
            due(Sky.fault(x, longText("z10;").substring(0, 199)), 188);
            due(Sky.fault(x, longText("z10;")), NONE);
        });
        S.test(11, "of a TEXT without p ITEM at its begin 0", x -> {
            due(x.fault(), 0);
            faultOf("z1;", 0);
            faultOf("z1;d1;x", 0);
            faultOf(" p100000;", 0);
            faultOf("5", 0);
        });
        S.test(11, "FAULT. NONE.", x -> {
            due(Sky.fault(x, "p100000;"), -4);
            due(x.fault(), -4);
            due(x.count(2), 8);
            due(x.count(1), 0);
        });
    }

    private static void model() {
        S.test(12, "THE TEXT becomes the MODEL of a STAR: how many ITEMS.", x -> {
            due(Sky.model(x, 0, "p100000;"), 1);
            due(Sky.model(x, 1, longText("z10;")), 8);
            due(x.comes(1, 0), 10000000 - 100000000);
            due(x.comes(0, 0), 0);
            due(x.count(2), 200);
        });
        S.test(12, "THE TEXT becomes the MODEL of a STAR: how many ITEMS.", x -> {
            Sky.model(x, 0, "p100000;z1;d5;s0,5;c4,1,1,1,1;");
            due(Sky.model(x, 0, "p200000;"), 1);
            due(x.comes(0, 0), 0);
            due(x.comes(0, 2), 400000000);
            due(Sky.model(x, 1, "p300000;z2;"), 2);
            due(x.comes(0, 1), 200000000);
            x.wipe();
            due(x.comes(1, 1), 302000000);
        });
        S.test(12, "A TEXT without FAULT may be the MODEL of a STAR.", x -> {
            due(Sky.model(x, 0, "p100000;z5;"), 2);
            due(x.model(0), 2);
            due(x.model(2), 2);
            due(x.count(1), 2);
            due(x.count(2), 11);
            x.write(1, 'x');
            due(x.fault(), 11);
            due(x.model(0), -2);
            due(x.model(1), -2);
            due(x.count(1), 2);
            due(x.comes(0, 0), 5000000);
            due(x.comes(1, 0), -2);
        });
        S.test(12, "how many ITEMS. BAD; NO: a FAULT.", x -> {
            Sky.write(x, "p100000;");
            for (int s : new int[] {LEAST, -1, 4, GREATEST}) {
                due(x.model(s), -1);
            }
            due(x.count(1), 0);
            for (int s = 0; s < 4; s++) {
                due(x.model(s), 1);
                due(x.count(1), s + 1);
            }
        });
        S.test(12, "NO: a FAULT.", x -> {
            due(x.model(0), -2);
            due(Sky.model(x, 0, "p99999;"), -2);
            due(x.count(1), 0);
            due(Sky.model(x, 0, "p100000;z3;"), 2);
            due(Sky.model(x, 0, "p200000;z4"), -2);
            due(x.comes(0, 0), 3000000);
            due(x.comes(0, 1), 103000000);
            due(x.model(4), -1);
            x.write(1, ';');
            due(x.model(0), 2);
            due(x.comes(0, 1), 204000000);
        });
    }

    private static void comesAll(SkyClocks x, int first, long... want) {
        for (int i = 0; i < want.length; i++) {
            due(x.comes(0, first + i), want[i]);
        }
    }

    private static void plainTurns(SkyClocks x, int star) {
        for (int n = 0; n < 5; n++) {
            due(x.comes(star, n), 100000000L * n);
        }
    }

    private static void turns() {
        S.test(13, "turn 0 begins at z (0 without)", x -> {
            Sky.model(x, 0, "p100000;");
            comesAll(x, 0, 0);
            Sky.model(x, 0, "p100000;z0;");
            comesAll(x, 0, 0);
            Sky.model(x, 0, "p100000;z1000000;");
            comesAll(x, 0, 1000000000000L, 1000100000000L);
        });
        S.test(13, "turn 0 begins at z (0 without)", x -> {
            // nothing of a TEXT that was read ahead of it stays
            String plain = "p100000;";
            for (int i = 0; i < 4; i++) {
                due(Sky.fault(x, "p300000;z7;d9;s0,5;s0,5;s0,5;c4,1,2,3,4;c4,1,2,3,4;"), NONE);
                due(Sky.model(x, i, plain), 1);
                plainTurns(x, i);
                due(Sky.model(x, i, "p300000;z7;d9;s0,5;s0,5;s0,5;c4,1,2,3,4;c4,1,2,3,4;"), 8);
                due(Sky.model(x, i, plain), 1);
                due(Sky.model(x, i, plain), 1);
                plainTurns(x, i);
            }
        });
        S.test(13, "n times d", x -> {
            Sky.model(x, 0, "p100000;d1;");
            comesAll(x, 0, 0, 100000000, 200000001, 300000003, 400000006);
            Sky.model(x, 0, "p100000;d-100000;");
            comesAll(x, 0, 0, 100000000, 199900000, 299700000);
        });
        S.test(13, "each SLIP of which T times 1000000 is at most where turn n begins", x -> {
            Sky.model(x, 0, "p100000;s200,7;");
            comesAll(x, 1, 100000000, 200000000, 300007000, 400014000);
            Sky.model(x, 0, "p100000;s201,7;");
            comesAll(x, 1, 100000000, 200000000, 300000000, 400007000);
            Sky.model(x, 0, "p100000;d-1;s200,7;");
            comesAll(x, 1, 100000000, 199999999, 299999997, 400006994);
            Sky.model(x, 0, "p100000;d1;s200,7;");
            comesAll(x, 1, 100000000, 200000001, 300007003);
            Sky.model(x, 0, "p100000;s0,-7;");
            comesAll(x, 0, 0, 99993000);
            Sky.model(x, 0, "p100000;z5;s5,7;s6,100;");
            comesAll(x, 0, 5000000, 105007000, 205114000);
        });
        S.test(13, "each SLIP of which T times 1000000 is at most where turn n begins", x -> {
            Sky.model(x, 0, "p100000;s100,7;c4,-500,-500,-500,-500;");
            comesAll(x, 0, -500000, 99500000, 199507000);
            Sky.model(x, 0, "p100000;s101,7;c4,5000,5000,5000,5000;");
            comesAll(x, 0, 5000000, 105000000, 205000000, 305007000);
            Sky.model(x, 0, "p100000;s0,50000;s0,50000;s0,50000;");
            comesAll(x, 0, 0, 250000000, 500000000);
            Sky.model(x, 0, "p100000000;z1000000;s1000000,-50000;");
            comesAll(x, 0, 1000000000000L, 1099950000000L);
        });
        S.test(13, "(at least 1000000 behind it)", x -> {
            Sky.model(x, 0, "p100000;s0,-50000;s0,-49000;");
            comesAll(x, 0, 0, 1000000, 2000000);
            Sky.model(x, 0, "p100000;s0,-50000;s0,-49000;d-1;");
            comesAll(x, 0, 0, 1000000, 2000000, 3000000);
            Sky.model(x, 0, "p100000;s0,-50000;s0,-49000;d1;");
            comesAll(x, 0, 0, 1000000, 2000001, 3000003);
            Sky.model(x, 0, "p100000;s0,-50000;s0,-50000;s0,-50000;d-100000;");
            comesAll(x, 0, 0, 1000000, 2000000, 3000000);
            comesAll(x, 9999, 9999000000L, 10000000000L);
        });
        S.test(13, "Turns 0 to 10000 are there", x -> {
            Sky.model(x, 0, "p100000;");
            comesAll(x, 0, 0);
            comesAll(x, 9999, 999900000000L, 1000000000000L);
            for (int n : new int[] {LEAST, -1, 10001, GREATEST}) {
                due(x.comes(0, n), -1);
            }
        });
        S.test(13, "as far as they begin at 2000000 times 1000000 at most", x -> {
            Sky.model(x, 0, "p200000;");
            comesAll(x, 10000, 2000000000000L);
            Sky.model(x, 0, "p200000;z1;");
            comesAll(x, 9999, 1999801000000L, -2);
            Sky.model(x, 0, "p100000000;z1000000;");
            comesAll(x, 10, 2000000000000L, -2);
            Sky.model(x, 0, "p100000000;z1000000;d1;");
            comesAll(x, 9, 1900000000036L, -2, -2);
            due(x.comes(0, 10000), -2);
        });
        S.test(13, "as far as they begin at 2000000 times 1000000 at most", x -> {
            Sky.model(x, 0, "p200000;c4,50000,50000,50000,50000;");
            comesAll(x, 10000, 2000050000000L);
            Sky.model(x, 0, "p100000000;z1000000;d1;c4,-50000,-50000,-50000,-50000;");
            comesAll(x, 9, 1899950000036L, -2);
        });
        S.test(13, "there is no such turn -2", x -> {
            Sky.model(x, 0, "p100000000;");
            comesAll(x, 20, 2000000000000L, -2);
            Sky.model(x, 0, "p100000;");
            comesAll(x, 21, 2100000000L);
            Sky.model(x, 0, "p100000000;");
            comesAll(x, 20, 2000000000000L, -2);
        });
    }

    private static void companions() {
        S.test(13, "by which quarter (4 times (n modulo Q) by Q, cut) of Q turns", x -> {
            int[] cycles = {4, 5, 6, 7, 8};
            int[][] quarters = {{0, 1, 2, 3}, {0, 0, 1, 2, 3}, {0, 0, 1, 2, 2, 3}, {0, 0, 1, 1, 2, 2, 3}, {0, 0, 1, 1, 2, 2, 3, 3}};
            for (int i = 0; i < cycles.length; i++) {
                Sky.model(x, 0, "p100000;c" + cycles[i] + ",0,1,2,3;");
                for (int n = 0; n < 2 * cycles[i] + 1; n++) {
                    due(x.comes(0, n) - 100000000L * n, 1000 * quarters[i][n % cycles[i]]);
                }
            }
        });
        S.test(13, "by which quarter (4 times (n modulo Q) by Q, cut) of Q turns", x -> {
            Sky.model(x, 0, "p100000;c1000,1,2,3,4;");
            int[] turns = {0, 249, 250, 499, 500, 749, 750, 999, 1000, 1249, 1250, 9999, 10000};
            int[] late = {1, 1, 2, 2, 3, 3, 4, 4, 1, 1, 2, 4, 1};
            for (int i = 0; i < turns.length; i++) {
                due(x.comes(0, turns[i]) - 100000000L * turns[i], 1000 * late[i]);
            }
        });
        S.test(13, "It COMES at its beginning and 1000 times what COMPANIONS tell, together.", x -> {
            Sky.model(x, 0, "p100000;c4,50000,-50000,0,1;c5,50000,50000,-50000,-50000;");
            comesAll(x, 0, 100000000, 100000000, 250000000, 250001000, 400000000, 500000000, 650000000, 750001000);
        });
        S.test(13, "Where turn n (0 to 10000) COMES, in millionths.", x -> {
            Sky.model(x, 1, "p200000;c4,-50000,0,0,0;");
            due(x.comes(1, 0), -50000000);
            due(x.comes(1, 10000), 1999950000000L);
            due(x.comes(1, -1), -1);
            due(x.comes(1, 10001), -1);
        });
        S.test(13, "BAD -1; NO: no MODEL, there is no such turn -2.", x -> {
            due(x.comes(0, 0), -2);
            due(x.comes(0, 10000), -2);
            for (int s : new int[] {LEAST, -1, 4, GREATEST}) {
                due(x.comes(s, 0), -1);
            }
            due(x.comes(0, 10001), -1);
            Sky.model(x, 3, "p100000;");
            due(x.comes(3, 0), 0);
            due(x.comes(2, 0), -2);
        });
    }

    private static void residue() {
        S.test(14, "where the turn COMES that is nearest to it (of several the lowest)", x -> {
            Sky.model(x, 0, "p100000;");
            Sky.arrivals(x, 0, 0, 49, 50, 51, 149, 150, 151);
            int[] want = {49, 50, -49, 49, 50, -49};
            for (int k = 0; k < 6; k++) {
                due(x.residue(0, k), want[k]);
            }
            Sky.model(x, 0, "p100000;d1;");
            due(x.residue(0, 4), 50);
            Sky.model(x, 0, "p100000;d-1;");
            due(x.residue(0, 4), -49);
        });
        S.test(14, "by 1000000, cut towards 0", x -> {
            Sky.arrivals(x, 0, 0, 199, 200, 201);
            Sky.model(x, 0, "p100000;d1;");
            due(x.residue(0, 0), -1);
            due(x.residue(0, 1), 0);
            due(x.residue(0, 2), 0);
            Sky.model(x, 0, "p100000;d-1;");
            due(x.residue(0, 0), 0);
            due(x.residue(0, 1), 0);
            due(x.residue(0, 2), 1);
            Sky.model(x, 0, "p100000;");
            due(x.residue(0, 0), -1);
            due(x.residue(0, 1), 0);
            due(x.residue(0, 2), 1);
        });
        S.test(14, "RESIDUE of an ARRIVAL: CORRECTED times 1000000 less where the turn COMES", x -> {
            Sky.model(x, 0, "p100000000;z1000000;c4,50000,0,0,0;c4,50000,0,0,0;");
            x.offset(0, 1000);
            x.shift(0, 0, -500);
            x.arrival(0, 0, 0, 0, 0);
            due(x.residue(0, 0), -1001600);
            Sky.model(x, 0, "p100000;s0,-50000;s0,-50000;c4,-50000,0,0,0;c4,-50000,0,0,0;");
            x.offset(1, -1000);
            x.shift(0, 10, 500);
            x.arrival(0, 1000000, 0, 1, 0);
            due(x.residue(0, 1), 1001500 - 9999);
        });
        S.test(14, "RESIDUE of ARRIVAL k.", x -> {
            Sky.model(x, 0, "p1000000;");
            Sky.arrivals(x, 0, 0, new int[24]);
            due(x.residue(0, 23), 0);
            for (int k : new int[] {LEAST, -1, 24, GREATEST}) {
                due(x.residue(0, k), Sky.BAD_RESIDUE);
            }
            for (int s : new int[] {LEAST, -1, 4, GREATEST}) {
                due(x.residue(s, 0), Sky.BAD_RESIDUE);
            }
        });
        S.test(14, "BAD -1000000000; NO -1000000002.", x -> {
            due(x.residue(4, 24), -1000000000);
            due(x.residue(0, 24), -1000000000);
            due(x.residue(0, 0), -1000000002);
            x.arrival(0, 3, 0, 0, 5);
            due(x.residue(0, 0), -1000000002);
            Sky.model(x, 0, "p1000000;");
            due(x.residue(0, 0), 3);
            due(x.residue(0, 1), -1000000002);
            x.rule(1, 4);
            due(x.residue(0, 0), -1000000002);
        });
    }

    private static void turn() {
        S.test(15, "nearest to it (of several the lowest)", x -> {
            Sky.model(x, 0, "p100000;");
            Sky.arrivals(x, 0, 0, 0, 49, 50, 51, 149, 150, 151, 999949, 999950, 999951, 1000000);
            int[] want = {0, 0, 0, 1, 1, 1, 2, 9999, 9999, 10000, 10000};
            for (int k = 0; k < want.length; k++) {
                due(x.turn(0, k), want[k]);
            }
        });
        S.test(15, "nearest to it (of several the lowest)", x -> {
            // turns 0 and 1 come at 50, 2 and 3 at 250, 4 and 5 at 450
            Sky.model(x, 0, "p100000;c4,50000,-50000,50000,-50000;");
            Sky.arrivals(x, 0, 0, 0, 50, 100, 149, 150, 151, 250, 400);
            int[] want = {0, 0, 0, 0, 0, 2, 2, 4};
            for (int k = 0; k < want.length; k++) {
                due(x.turn(0, k), want[k]);
            }
        });
        S.test(15, "nearest to it (of several the lowest)", x -> {
            // turns 0 to 249 come at 50 to 299, turns 250 to 499 at 200 to 449, turns 500 to 999 as they begin
            Sky.model(x, 0, "p100000;s0,-50000;s0,-50000;c1000,50000,-50000,0,0;");
            Sky.arrivals(x, 0, 0, 0, 50, 60, 200, 201, 300, 400);
            int[] turns = {0, 0, 10, 150, 151, 250, 350};
            for (int k = 0; k < turns.length; k++) {
                due(x.turn(0, k), slowTurn(x, x.at(0, k, 4), turns[k] + 200));
            }
        });
        S.test(15, "nearest to it (of several the lowest)", x -> {
            // turns 0, 1, 2 begin at 0, 50, 100, and all come at 100, as far behind as may be
            Sky.model(x, 0, "p100000;s0,-50000;c4,50000,25000,0,0;c4,50000,25000,0,0;");
            Sky.arrivals(x, 0, 0, 100, 112);
            due(x.turn(0, 0), 0);
            due(x.turn(0, 1), 0);
            due(x.residue(0, 1), 12);
            // turns 0, 1, 2 begin at 0, 50, 100, and all come at 0, as far ahead as may be
            Sky.model(x, 1, "p100000;s0,-50000;c4,0,-25000,-50000,0;c4,0,-25000,-50000,0;");
            Sky.arrivals(x, 1, 0, 0, 12);
            due(x.turn(1, 0), 0);
            due(x.turn(1, 1), 0);
            // turn 2 alone comes at 0
            Sky.model(x, 1, "p100000;s0,-50000;c4,10000,-24000,-50000,0;c4,0,-25000,-50000,0;");
            due(x.turn(1, 0), 2);
            due(x.turn(1, 1), 0);
        });
        S.test(15, "THE TURN of ARRIVAL k. BAD; NO.", x -> {
            due(x.turn(0, 0), -2);
            Sky.arrivals(x, 0, 0, new int[24]);
            due(x.turn(0, 0), -2);
            Sky.model(x, 0, "p100000;");
            due(x.turn(0, 0), 0);
            due(x.turn(0, 23), 0);
            for (int k : new int[] {LEAST, -1, 24, GREATEST}) {
                due(x.turn(0, k), -1);
            }
            for (int s : new int[] {LEAST, -1, 4, GREATEST}) {
                due(x.turn(s, 0), -1);
            }
            x.clear(0);
            due(x.turn(0, 0), -2);
            due(x.turn(0, 23), -2);
        });
    }

    /** The nearest turn of STAR 0 of those up to last, of several the lowest. */
    private static int slowTurn(SkyClocks x, int time, int last) {
        int best = 0;
        for (int n = 1; n <= last; n++) {
            if (Math.abs(x.comes(0, n) - time * 1000000L) < Math.abs(x.comes(0, best) - time * 1000000L)) {
                best = n;
            }
        }
        return best;
    }

    public static void main(String[] args) {
        write();
        wipe();
        items();
        rangesOfItems();
        fault();
        model();
        turns();
        companions();
        residue();
        turn();
        S.end(9, 15);
    }
}
