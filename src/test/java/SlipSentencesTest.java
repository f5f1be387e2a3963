import java.util.Arrays;

/** The sentences of promises 22 to 30 that name an edge, each with a test of its own. */
public final class SlipSentencesTest {
    private static final int LEAST = Integer.MIN_VALUE, GREATEST = Integer.MAX_VALUE, NONE = -4;
    private static final int[] NO_STARS = {LEAST, -1, 4, GREATEST}, NO_INSTRUMENTS = {LEAST, -1, 3, GREATEST};
    private static final Sentences S = new Sentences();

    private static void due(long got, long want) {
        S.due(got, want);
    }

    /** n RESIDUES, of which the first k are 0 and the others 9. */
    private static int[] step(int n, int k) {
        int[] row = new int[n];
        for (int i = k; i < n; i++) {
            row[i] = 9;
        }
        return row;
    }

    private static int slipOf(int... row) {
        return Sky.withResidues(row).slip(0);
    }

    private static int falseOf(int... row) {
        return Sky.withResidues(row).falseShare(0);
    }

    private static void slip() {
        S.test(22, "n of them (4 to 24)", x -> {
            due(x.slip(0), -2);
            Sky.model(x, 0, "p1000000;");
            due(x.slip(0), -2);
            for (int n = 1; n <= 24; n++) {
                due(x.arrival(0, 1000 * n, 0, 0, n), n);
                due(x.slip(0), n < 4 ? -2 : 2);
            }
            x.rule(1, 4);
            due(x.slip(0), 2);
            x.rule(1, 3);
            due(x.slip(0), -2);
        });
        S.test(22, "the k of 2 to n - 2 of greatest G", x -> {
            due(slipOf(9, 0, 0, 0), 2);
            due(slipOf(0, 0, 0, 9), 2);
            due(slipOf(9, 0, 0, 0, 0), 2);
            due(slipOf(0, 0, 0, 0, 9), 3);
            due(slipOf(9, 0, 0, 0, 0, 0), 2);
            due(slipOf(0, 0, 0, 0, 0, 9), 4);
            for (int n = 4; n <= 24; n++) {
                due(slipOf(step(n, 1)), 2);
                due(slipOf(step(n, 2)), 2);
                due(slipOf(step(n, n / 2)), n / 2);
                due(slipOf(step(n, n - 2)), n - 2);
                due(slipOf(step(n, n - 1)), n - 2);
            }
        });
        S.test(22, "of several the least", x -> {
            due(slipOf(new int[24]), 2);
            due(slipOf(5, 5, 5, 5, 5, 5), 2);
            due(slipOf(1, 2, 1, 1, 2), 2);
            due(slipOf(0, 0, 9, 9, 9, 9, 0, 0), 2);
            // n = 8: of k 3 and 5 by 15 each (8 * 5)^2, of 2 by 12 and 4 by 16 none
            due(slipOf(0, 0, 5, -5, 0, 0, 0, 0), 3);
            due(slipOf(0, 0, 5, -5, 5, -5, 0, 0), 3);
            // n = 6, all 0: of k 2 (6 * 2)^2 by 8, of k 3 (6 * 1)^2 by 9, of k 4 (6 * 2)^2 by 8
            due(slipOf(1, 1, -1, 1, -1, -1), 2);
        });
        S.test(22, "by k (n - k)", x -> {
            // n = 6, all 0: of k 2 (6 * 17)^2 by 8 = 1300.5, of k 3 (6 * 18)^2 by 9 = 1296
            due(slipOf(8, 9, 1, -6, -6, -6), 2);
            // all 0: of k 3 (6 * 19)^2 by 9 = 1444, of k 2 (6 * 17)^2 by 8
            due(slipOf(8, 9, 2, -6, -6, -7), 3);
            // all 6: 36 by 8, 36 by 9, 0
            due(slipOf(2, 1, 1, 0, 1, 1), 2);
            due(slipOf(1, 1, 0, 1, 1, 2), 4);
        });
        S.test(22, "SLIP: k. BAD; NO.", x -> {
            for (int s : NO_STARS) {
                due(x.slip(s), -1);
            }
            for (int s = 0; s < 4; s++) {
                Sky.residues(x, s, 0, 0, 0, 0, 7, 7);
                due(x.slip(s), 4);
            }
            x.clear(0);
            due(x.slip(0), -2);
        });
        S.test(22, "by its MODEL", x -> {
            Sky.arrivals(x, 0, 1, 1000, 2000, 3000, 4000, 5000, 6000, 7000);
            due(x.slip(0), -2);
            due(x.falseShare(0), -2);
            Sky.model(x, 0, "p1000000;");
            due(x.slip(0), 2);
            // RESIDUES 0, 0, 0, 0, -50, -100, -150: of k 4 1200^2 by 12, of k 5 1150^2 by 10
            Sky.model(x, 0, "p1000000;s4000,50000;");
            due(x.slip(0), 5);
        });
    }

    private static void falseShare() {
        S.test(23, "FALSE (n 12 at most)", x -> {
            due(x.falseShare(0), -2);
            Sky.model(x, 0, "p1000000;");
            for (int n = 0; n <= 24; n++) {
                due(x.falseShare(0), n < 4 || n > 12 ? -2 : 1 << n);
                x.arrival(0, 1000 * (n + 1), 0, 0, n);
            }
            x.rule(1, 12);
            due(x.falseShare(0), -2);
            x.rule(1, 11);
            due(x.falseShare(0), 4096);
            x.rule(1, 2);
            due(x.falseShare(0), -2);
        });
        S.test(23, "have a greatest G that is as great at least", x -> {
            due(falseOf(-5, -5, 5, 5), 2);
            due(falseOf(5, 5, 5, 5), 16);
            due(falseOf(9, 0, 0, 0), 16);
            due(falseOf(3, 1, 1, 1), 14);
            // +-2 +-2 less +-1 +-1 of size 4 at least: 2 + 2 less 0, 0 and -2, and all signs turned
            due(falseOf(2, 2, 1, -1), 6);
            due(falseOf(-5, -5, -5, -5, -5, -5, 5, 5, 5, 5, 5, 5), 2);
        });
        S.test(23, "of all rows of signs given to the RESIDUES how many have a greatest G that is as great at least", x -> {
            // RESIDUES of a longer row must not be seen behind a shorter one
            Sky.residues(x, 3, 90, -91, 92, -93, 94, -95, 96, -97, 98, -99, 100, -101, 102, -103);
            due(x.slip(3) > 1 ? 1 : 0, 1);
            int[][] rows = {{3, -1, 4, 1}, {3, 1, -4, 1, 5}, {7, 7, 1, 0, -2, 5}, {2, 1, 1, 0, 1, 1}, {0, 0, 5, 6, 0, -5, 6},
                {1, 2, 3, 4, 5, 6, 7, 8}, {3, -1, 4, 1, -5, 9, 2, 6, 5, 3, 5, 8}, {9, -9, 8, 8, 7, 8, -1, 0, 0, 1, 2, -30}};
            for (int[] row : rows) {
                x.clear(0);
                Sky.residues(x, 0, row);
                due(x.falseShare(0), slowFalse(row));
            }
        });
        S.test(23, "FALSE. BAD; NO (more than 12, too).", x -> {
            for (int s : NO_STARS) {
                due(x.falseShare(s), -1);
            }
            for (int s = 0; s < 4; s++) {
                due(x.falseShare(s), -2);
                Sky.residues(x, s, step(13, 6));
                due(x.falseShare(s), -2);
                due(x.slip(s), 6);
            }
        });
    }

    private static long commonDivisor(long a, long b) {
        return b == 0 ? a : commonDivisor(b, a % b);
    }

    /** The greatest G of a row, times the least that makes each G of so many whole. */
    private static long greatestG(int[] row) {
        int n = row.length;
        long below = 1;
        long best = 0;
        for (int k = 2; k <= n - 2; k++) {
            below *= k * (n - k) / commonDivisor(below, k * (n - k));
        }
        for (int k = 2; k <= n - 2; k++) {
            long first = 0;
            long all = 0;
            for (int i = 0; i < n; i++) {
                first += i < k ? row[i] : 0;
                all += row[i];
            }
            best = Math.max(best, (n * first - k * all) * (n * first - k * all) * (below / (k * (n - k))));
        }
        return best;
    }

    /** FALSE, each row of signs written out. */
    private static int slowFalse(int[] row) {
        int sum = 0;
        for (int signs = 0; signs < 1 << row.length; signs++) {
            int[] turned = row.clone();
            for (int i = 0; i < row.length; i++) {
                turned[i] = (signs >> i) % 2 == 0 ? row[i] : -row[i];
            }
            sum += greatestG(turned) >= greatestG(row) ? 1 : 0;
        }
        return sum;
    }

    private static void hum() {
        S.test(24, "(L 7 at most, and as many as both have; 2 at least)", x -> {
            Sky.model(x, 0, "p1000000;");
            Sky.model(x, 1, "p1000000;");
            int[] sums = {0, 0, 4, 8, 13, 19, 26, 34, 34, 34};
            int[] a = {1, 1, 1, 1, 1, 1, 1, 100, 100};
            int[] b = {1, 3, 4, 5, 6, 7, 8, 100, 100};
            for (int n = 0; n <= 9; n++) {
                due(x.hum(0, 1), n < 2 ? Sky.NO_LONG : sums[n]);
                due(x.hum(1, 0), n < 2 ? Sky.NO_LONG : sums[n]);
                if (n < 9) {
                    x.arrival(0, 1000 * (n + 1) + a[n], 0, 0, 0);
                    due(x.hum(0, 1), n < 2 ? Sky.NO_LONG : sums[n]);
                    x.arrival(1, 1000 * (n + 1) + b[n], 0, 0, 0);
                }
            }
        });
        S.test(24, "with the first L RESIDUES of each", x -> {
            Sky.residues(x, 0, 2, -3, 400, 400, 400);
            Sky.residues(x, 1, 10, 100);
            due(x.hum(0, 1), 20 - 300);
            due(x.hum(1, 0), 20 - 300);
            x.arrival(0, 6, 0, 0, 1);
            due(x.hum(0, 1), 60 + 200);
            x.rule(1, 0);
            due(x.hum(0, 1), 20 - 300);
        });
        S.test(24, "the sum of products", x -> {
            x.offset(0, 1000);
            x.shift(0, 0, -500);
            for (int s = 0; s < 2; s++) {
                Sky.model(x, s, "p100000000;z1000000;c4,50000,0,0,0;c4,50000,0,0,0;");
                Sky.arrivals(x, s, 0, new int[7]);
            }
            due(x.hum(0, 1), 7 * 1001600L * 1001600L);
            due(x.shuffled(0, 1), 5040);
        });
        S.test(24, "BAD (a is b, too) -1000000000000000000; NO -1000000000000000002.", x -> {
            for (int s : NO_STARS) {
                due(x.hum(s, 0), -1000000000000000000L);
                due(x.hum(0, s), -1000000000000000000L);
            }
            for (int s = 0; s < 4; s++) {
                due(x.hum(s, s), -1000000000000000000L);
                due(x.hum(s, (s + 1) % 4), -1000000000000000002L);
            }
            Sky.residues(x, 0, 1, 2, 3);
            Sky.arrivals(x, 1, 0, 1000, 2000);
            due(x.hum(0, 1), -1000000000000000002L);
            due(x.hum(1, 0), -1000000000000000002L);
            due(x.hum(0, 0), -1000000000000000000L);
            Sky.model(x, 1, "p1000000;");
            due(x.hum(0, 1), 0);
        });
    }

    private static void shuffled() {
        S.test(25, "of all orders of the second's L how many have a sum as great at least", x -> {
            Sky.residues(x, 0, 1, 2, 3, 4, 5, 6, 7, 100);
            Sky.residues(x, 1, 1, 2, 3, 4, 5, 6, 7, -100);
            Sky.residues(x, 2, 7, 6, 5, 4, 3, 2, 1, 100);
            Sky.residues(x, 3, 0, 0, 0, 0, 0, 0, 0, 9);
            due(x.shuffled(0, 1), 1);
            due(x.shuffled(0, 2), 5040);
            due(x.shuffled(0, 3), 5040);
            due(x.shuffled(3, 0), 5040);
        });
        S.test(25, "(L 7 at most, and as many as both have; 2 at least)", x -> {
            int[] orders = {1, 1, 2, 6, 24, 120, 720, 5040, 5040};
            Sky.model(x, 0, "p1000000;");
            Sky.model(x, 1, "p1000000;");
            for (int n = 0; n <= 8; n++) {
                due(x.shuffled(0, 1), n < 2 ? -2 : orders[n]);
                x.arrival(0, 1000 * (n + 1), 0, 0, 0);
                due(x.shuffled(1, 0), n < 2 ? -2 : orders[n]);
                x.arrival(1, 1000 * (n + 1), 0, 0, 0);
            }
        });
        S.test(25, "how many have a sum as great at least", x -> {
            Sky.residues(x, 0, 1, 2);
            Sky.residues(x, 1, 1, 2);
            Sky.residues(x, 2, 2, 1);
            Sky.residues(x, 3, 4, 4);
            due(x.shuffled(0, 1), 1);
            due(x.shuffled(0, 2), 2);
            due(x.shuffled(0, 3), 2);
            Sky.residues(x, 0, 3);
            Sky.residues(x, 1, 1);
            x.clear(0);
            x.clear(1);
            // of 1, 1, 2 by 1, 2, 3 the like ones in both orders
            Sky.residues(x, 0, 1, 2, 3);
            Sky.residues(x, 1, 1, 1, 2);
            due(x.shuffled(0, 1), 2);
            due(x.shuffled(1, 0), 2);
        });
        S.test(25, "SHUFFLED. BAD (a is b, too); NO.", x -> {
            for (int s : NO_STARS) {
                due(x.shuffled(s, 0), -1);
                due(x.shuffled(0, s), -1);
            }
            for (int s = 0; s < 4; s++) {
                due(x.shuffled(s, s), -1);
                due(x.shuffled(s, (s + 1) % 4), -2);
            }
            Sky.residues(x, 0, 1, 2, 3);
            Sky.arrivals(x, 1, 0, 1000, 2000);
            due(x.shuffled(0, 1), -2);
            due(x.shuffled(1, 0), -2);
            due(x.shuffled(0, 0), -1);
        });
    }

    /** On turn n of PERIOD 1000 an ARRIVAL by INSTRUMENT 0, gap behind one by 1. */
    private static void pair(SkyClocks x, int star, int n, int gap) {
        x.arrival(star, 1000 * n + gap, 0, 0, 0);
        x.arrival(star, 1000 * n, 0, 1, 0);
    }

    /** The greater of the two middles of the first n times: turned, it is the lesser. */
    private static int lesserOfTurned(int[] times, int n) {
        int[] first = Arrays.copyOf(times, n);
        Arrays.sort(first);
        return first[n / 2];
    }

    private static void between() {
        S.test(26, "(of an even number the lesser)", x -> {
            Sky.model(x, 0, "p1000000;");
            int[] gaps = {30, -10, 20, 5, 40, 5};
            int[] want = {30, -10, 20, 5, 20, 5};
            int[] turned = {-30, -30, -20, -20, -20, -20};
            for (int i = 0; i < gaps.length; i++) {
                pair(x, 0, i + 1, gaps[i]);
                due(x.between(0, 1), want[i]);
                due(x.between(1, 0), turned[i]);
            }
        });
        S.test(26, "the middle of these in order (of an even number the lesser)", x -> {
            Sky.model(x, 0, "p100000000;z1000000;");
            int[] times = {1000000, 0, 999999, 1, 500000, 7, 7, 8};
            int[] want = {1000000, 0, 999999, 1, 500000, 7, 7, 7};
            for (int i = 0; i < times.length; i++) {
                if (i == 0) {
                    x.arrival(0, 0, 0, 1, 0);
                }
                x.arrival(0, times[i], 0, 0, 0);
                due(x.between(0, 1), want[i]);
                due(x.between(1, 0), i % 2 == 0 ? -want[i] : -lesserOfTurned(times, i + 1));
            }
        });
        S.test(26, "over all STARS with a MODEL and pairs of ARRIVALS, one by i, one by j, that have one TURN", x -> {
            for (int s = 0; s < 4; s++) {
                pair(x, s, 5, 10 * (s + 1));
            }
            due(x.between(0, 1), Sky.NO_BETWEEN);
            int[] want = {10, 10, 20, 20};
            for (int s = 0; s < 4; s++) {
                Sky.model(x, s, "p1000000;");
                due(x.between(0, 1), want[s]);
            }
            x.arrival(0, 6499, 0, 0, 0);
            x.arrival(0, 7499, 0, 1, 0);
            due(x.between(0, 1), 20);
        });
        S.test(26, "that have one TURN", x -> {
            Sky.model(x, 0, "p1000000;");
            x.arrival(0, 1500, 0, 0, 0);
            x.arrival(0, 1501, 0, 1, 0);
            due(x.between(0, 1), Sky.NO_BETWEEN);
            x.offset(1, 1);
            due(x.between(0, 1), -1);
            x.offset(1, 0);
            due(x.between(0, 1), Sky.NO_BETWEEN);
            x.offset(0, -1);
            due(x.between(0, 1), -1);
            due(x.between(1, 0), 1);
        });
        S.test(26, "AT by i less AT by j", x -> {
            Sky.model(x, 0, "p100000000;z1000000;");
            x.arrival(0, 0, 0, 0, 0);
            x.arrival(0, 1000000, 0, 1, 0);
            x.arrival(0, 7, 0, 2, 0);
            x.offset(0, 9);
            x.shift(0, 0, 5);
            due(x.between(0, 1), -1000000);
            due(x.between(1, 0), 1000000);
            due(x.between(2, 0), 7);
            due(x.between(1, 2), 999993);
        });
        S.test(26, "pairs of ARRIVALS, one by i, one by j", x -> {
            for (int s = 0; s < 4; s++) {
                Sky.model(x, s, "p100000000;");
                for (int i = 0; i < 12; i++) {
                    x.arrival(s, 100 + i + 12 * s, 1, 0, 0);
                    x.arrival(s, 50, 1, 1, 0);
                }
            }
            due(x.between(0, 1), 73);
            due(x.between(1, 0), -74);
            due(x.between(0, 2), Sky.NO_BETWEEN);
        });
        S.test(26, "BETWEEN. BAD (i is j, too) -10000000; NO: there is no such pair -10000002.", x -> {
            for (int i : NO_INSTRUMENTS) {
                due(x.between(i, 0), -10000000);
                due(x.between(0, i), -10000000);
            }
            for (int i = 0; i < 3; i++) {
                due(x.between(i, i), -10000000);
                due(x.between(i, (i + 1) % 3), -10000002);
            }
            Sky.model(x, 0, "p1000000;");
            due(x.between(0, 1), -10000002);
            x.arrival(0, 1000, 0, 0, 0);
            due(x.between(0, 1), -10000002);
            x.arrival(0, 1000, 0, 1, 7);
            due(x.between(0, 1), 0);
            x.rule(1, 6);
            due(x.between(0, 1), -10000002);
        });
    }

    private static void loop() {
        S.test(27, "BAD (two alike) -10000000; NO -10000002.", x -> {
            for (int i : NO_INSTRUMENTS) {
                due(x.loop(i, 0, 1), -10000000);
                due(x.loop(0, i, 1), -10000000);
                due(x.loop(0, 1, i), -10000000);
            }
            for (int i = 0; i < 3; i++) {
                int j = (i + 1) % 3;
                due(x.loop(i, i, j), -10000000);
                due(x.loop(i, j, i), -10000000);
                due(x.loop(j, i, i), -10000000);
                due(x.loop(i, i, i), -10000000);
                due(x.loop(i, j, (i + 2) % 3), -10000002);
            }
        });
        S.test(27, "BETWEEN i, j and j, k less that of i, k: how a LOOP closes.", x -> {
            Sky.model(x, 0, "p1000000;");
            pair(x, 0, 1, 3);
            due(x.loop(0, 1, 2), -10000002);
            x.arrival(0, 2001, 0, 1, 0);
            x.arrival(0, 2000, 0, 2, 0);
            for (int i = 0; i < 3; i++) {
                due(x.loop(i, (i + 1) % 3, (i + 2) % 3), -10000002);
                due(x.loop(i, (i + 2) % 3, (i + 1) % 3), -10000002);
            }
            x.arrival(0, 3010, 0, 0, 0);
            x.arrival(0, 3000, 0, 2, 0);
            due(x.loop(0, 1, 2), 3 + 1 - 10);
            due(x.loop(1, 2, 0), 1 - 10 + 3);
            due(x.loop(2, 1, 0), -1 - 3 + 10);
        });
        S.test(27, "BETWEEN i, j and j, k less that of i, k: how a LOOP closes.", x -> {
            for (int s = 0; s < 3; s++) {
                Sky.model(x, s, "p100000000;z1000000;");
                x.arrival(s, 0, 0, s, 0);
                x.arrival(s, 1000000, 0, (s + 1) % 3, 0);
            }
            due(x.loop(0, 1, 2), -3000000);
            due(x.loop(0, 2, 1), 3000000);
        });
    }

    private static void moved() {
        S.test(28, "the sum of sizes of (RESIDUE by VERSION 1 less that by 0)", x -> {
            Sky.model(x, 0, "p100000000;");
            Sky.arrivals(x, 0, 0, new int[24]);
            due(x.moved(0), 0);
            x.shift(0, 0, 500);
            x.shift(1, 0, -500);
            due(x.moved(0), 24000);
            x.rule(0, 1);
            due(x.moved(0), 24000);
            x.shift(1, 0, 500);
            due(x.moved(0), 0);
        });
        S.test(28, "the sum of sizes of (RESIDUE by VERSION 1 less that by 0)", x -> {
            Sky.model(x, 0, "p1000000;");
            x.arrival(0, 50000, 0, 0, 0);
            x.arrival(0, 150000, 0, 0, 5);
            x.arrival(0, 250500, 0, 0, 0);
            x.shift(1, 0, 3);
            x.shift(1, 1, -4);
            x.shift(1, 2, 1);
            due(x.moved(0), 3 + 4 + 999);
            x.rule(1, 4);
            due(x.moved(0), 3 + 999);
        });
        S.test(28, "MOVED. BAD -1; NO -2.", x -> {
            for (int s : NO_STARS) {
                due(x.moved(s), -1);
            }
            x.arrival(1, 5, 0, 0, 0);
            for (int s = 0; s < 4; s++) {
                due(x.moved(s), -2);
                Sky.model(x, s, "p1000000;");
                due(x.moved(s), 0);
            }
        });
    }

    private static void alarm() {
        S.test(29, "whose RESIDUE has a size above three times its ERR", x -> {
            int[][] errGapAlarm = {{0, 0, 0}, {0, 1, 1}, {0, -1, 1}, {1, 3, 0}, {1, 4, 1}, {1, -3, 0}, {1, -4, 1},
                {1000, 3000, 0}, {1000, 3001, 1}, {1000, -3000, 0}, {1000, -3001, 1}};
            Sky.model(x, 0, "p100000000;");
            for (int[] e : errGapAlarm) {
                x.clear(0);
                x.arrival(0, 100000 + e[1], e[0], 0, 0);
                due(x.alarm(0), e[2] == 1 ? 0 : NONE);
            }
        });
        S.test(29, "whose RESIDUE has a size above three times its ERR", x -> {
            // turn 2 comes at 200000001 and 199999999: the RESIDUES are cut
            x.arrival(0, 204, 1, 0, 0);
            Sky.model(x, 0, "p100000;d1;");
            due(x.alarm(0), NONE);
            Sky.model(x, 0, "p100000;d-1;");
            due(x.alarm(0), 0);
            x.clear(0);
            x.arrival(0, 196, 1, 0, 0);
            due(x.alarm(0), NONE);
            Sky.model(x, 0, "p100000;d1;");
            due(x.alarm(0), 0);
        });
        S.test(29, "in order of KNOWN (of like ones in their order) the first ARRIVAL", x -> {
            Sky.model(x, 0, "p1000000;");
            x.arrival(0, 5005, 1, 0, 70);
            due(x.alarm(0), 0);
            x.arrival(0, 6005, 1, 0, 70);
            due(x.alarm(0), 0);
            x.arrival(0, 4005, 1, 0, 70);
            due(x.alarm(0), 0);
            x.arrival(0, 3005, 1, 0, 71);
            due(x.alarm(0), 1);
            x.arrival(0, 7005, 1, 0, 69);
            due(x.alarm(0), 4);
            x.arrival(0, 2003, 1, 0, 0);
            due(x.alarm(0), 5);
            x.rule(1, 70);
            due(x.alarm(0), 4);
            x.rule(1, 68);
            due(x.alarm(0), NONE);
            x.rule(1, 2000000);
            x.arrival(0, 8005, 1, 0, 69);
            due(x.alarm(0), 5);
        });
        S.test(29, "in order of KNOWN (of like ones in their order) the first ARRIVAL", x -> {
            Sky.model(x, 0, "p1000000;");
            for (int i = 0; i < 24; i++) {
                x.arrival(0, 5000 + (i == 0 ? 4 : 3), 1, 0, 2000000 - i);
            }
            due(x.alarm(0), 23);
            x.offset(0, -1);
            due(x.alarm(0), 22);
        });
        S.test(29, "ALARM: which ARRIVAL. NONE; BAD; NO: no MODEL.", x -> {
            for (int s : NO_STARS) {
                due(x.alarm(s), -1);
            }
            x.arrival(1, 5, 0, 0, 0);
            for (int s = 0; s < 4; s++) {
                due(x.alarm(s), -2);
                Sky.model(x, s, "p1000000;");
                due(x.alarm(s), s == 1 ? 0 : NONE);
            }
            x.clear(1);
            due(x.alarm(1), NONE);
        });
    }

    private static void count() {
        S.test(30, "0 ARRIVALS of all that count", x -> {
            due(x.count(0), 0);
            for (int s = 0; s < 4; s++) {
                for (int i = 0; i < 24; i++) {
                    x.arrival(s, i, 0, 0, i);
                }
                due(x.count(0), 24 * (s + 1));
            }
            x.rule(1, 0);
            due(x.count(0), 4);
            x.clear(2);
            due(x.count(0), 3);
        });
        S.test(30, "1 MODELS", x -> {
            due(x.count(1), 0);
            for (int s = 0; s < 4; s++) {
                Sky.model(x, s, "p100000;");
                Sky.model(x, s, "p100000;d1;");
                due(x.count(1), s + 1);
            }
            Sky.model(x, 0, "p1;");
            due(x.count(1), 4);
        });
        S.test(30, "2 bytes of THE TEXT", x -> {
            due(x.count(2), 0);
            for (int i = 0; i < 25; i++) {
                x.write(8, 0);
                due(x.count(2), 8 * (i + 1));
            }
            x.write(1, 0);
            due(x.count(2), 200);
            x.wipe();
            due(x.count(2), 0);
        });
        S.test(30, "3 WAYS of the latest ways() (SPENT: 0)", x -> {
            due(x.count(3), 0);
            Sky.arrivals(x, 0, 0, 0, 50000);
            due(x.ways(0, 100000, 50000000), 500);
            due(x.count(3), 500);
            due(x.ways(1, 100000, 50000000), -2);
            due(x.ways(0, 100000, 99999), -1);
            due(x.count(3), 500);
            Sky.spend(x);
            due(x.count(3), 0);
            due(x.ways(0, 50000000, 50000000), 1);
            due(x.count(3), 1);
        });
        S.test(30, "3 WAYS of the latest ways() (SPENT: 0). BAD.", x -> {
            for (int what : new int[] {LEAST, -1, 4, GREATEST}) {
                due(x.count(what), -1);
            }
        });
    }

    public static void main(String[] args) {
        slip();
        falseShare();
        hum();
        shuffled();
        between();
        loop();
        moved();
        alarm();
        count();
        S.end(22, 30);
    }
}
