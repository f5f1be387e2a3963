import java.math.BigInteger;

/** The sentences of promises 16 to 21 that name an edge, each with a test of its own. */
public final class WaySentencesTest {
    private static final int LEAST = Integer.MIN_VALUE, GREATEST = Integer.MAX_VALUE, NONE = -4, SPENT = -5;
    private static final Sentences S = new Sentences();

    /** ARRIVALS so far behind one another that each count that a PERIOD allows is above the one ahead: which of them are tried is plain. */
    private static final int[] TIMES = {0, 365000, 565000, 753000, 873000, 1000000}, ERRS = {0, 54, 58, 66, 0, 0};

    private static void due(long got, long want) {
        S.due(got, want);
    }

    private static void rangesOfWays() {
        S.test(16, "by PERIODS from LOW to HIGH (thousandths, 100000 to 100000000)", x -> {
            Sky.arrivals(x, 0, 0, 0, 100000);
            due(x.ways(0, 100000, 100000), 1);
            due(x.way(0, 1), 1000);
            due(x.ways(0, 100000000, 100000000), 1);
            due(x.way(0, 1), 1);
            for (int p : new int[] {LEAST, -1, 0, 99999}) {
                due(x.ways(0, p, 100000), -1);
                due(x.ways(0, p, p), -1);
            }
            for (int p : new int[] {100000001, GREATEST}) {
                due(x.ways(0, 100000000, p), -1);
                due(x.ways(0, p, p), -1);
            }
        });
        S.test(16, "BAD (LOW above HIGH)", x -> {
            Sky.arrivals(x, 0, 0, 0, 1000);
            due(x.ways(0, 1000000, 1000000), 1);
            due(x.ways(0, 1000001, 1000000), -1);
            due(x.ways(0, 100000000, 100000), -1);
            due(x.ways(0, 999999, 1000000), 1);
        });
        S.test(16, "STARS 0 to 3", x -> {
            for (int s = 0; s < 4; s++) {
                Sky.arrivals(x, s, 0, 0, 1000 * (s + 1));
                due(x.ways(s, 1000000, 1000000), 1);
                due(x.way(0, 1), s + 1);
            }
            for (int s : new int[] {LEAST, -1, 4, GREATEST}) {
                due(x.ways(s, 1000000, 1000000), -1);
            }
        });
        S.test(16, "NO: fewer than 2 ARRIVALS count", x -> {
            due(x.ways(0, 1000000, 1000000), -2);
            x.arrival(0, 0, 0, 0, 0);
            due(x.ways(0, 1000000, 1000000), -2);
            x.arrival(0, 1000, 0, 0, 50);
            due(x.ways(0, 1000000, 1000000), 1);
            x.rule(1, 49);
            due(x.ways(0, 1000000, 1000000), -2);
            due(x.ways(0, 1000000, 999999), -1);
            x.rule(1, 50);
            due(x.ways(0, 1000000, 1000000), 1);
        });
        S.test(16, "24 at most each", x -> {
            for (int k = 0; k < 24; k++) {
                x.arrival(0, 1000 * k, 0, 0, 0);
            }
            due(x.ways(0, 500000, 1500000), 2);
            for (int k = 0; k < 24; k++) {
                due(x.way(0, k), k);
                due(x.way(1, k), 2 * k);
            }
        });
    }

    private static void rowsOfCounts() {
        S.test(16, "0 for ARRIVAL 0, each above the one ahead", x -> {
            Sky.arrivals(x, 0, 0, 100, 200, 200);
            due(x.ways(0, 100000, 100000), 0);
            x.clear(0);
            Sky.arrivals(x, 0, 0, 100, 100);
            due(x.ways(0, 100000, 100000000), 0);
            x.clear(0);
            // counts 0 to 2 are off by 100 at most, 0 is not above 0
            x.arrival(0, 0, 0, 0, 0);
            x.arrival(0, 100, 100, 0, 0);
            due(x.ways(0, 100000, 100000), 2);
            due(x.way(0, 0), 0);
            due(x.way(0, 1), 1);
            due(x.way(1, 1), 2);
            // of counts 0 to 2 by both: 1 and 2 alone
            x.arrival(0, 100, 100, 0, 0);
            due(x.ways(0, 100000, 100000), 1);
            due(x.way(0, 1), 1);
            due(x.way(0, 2), 2);
        });
        S.test(16, "0 for ARRIVAL 0, each above the one ahead", x -> {
            // CORRECTED 1 is ahead of CORRECTED 0
            x.offset(1, 1000);
            x.arrival(0, 500, 500, 0, 0);
            x.arrival(0, 600, 500, 1, 0);
            due(x.ways(0, 100000, 100000), 1);
            due(x.way(0, 1), 1);
            due(x.ways(0, 100001, 100001), 0);
            x.offset(0, -1);
            due(x.ways(0, 100000, 100000), 0);
        });
        S.test(16, "some PERIOD P from LOW to HIGH (any fraction)", x -> {
            Sky.arrivals(x, 0, 0, 0, 1000);
            due(x.ways(0, 333333, 333334), 1);
            due(x.way(0, 1), 3);
            due(x.ways(0, 333334, 333334), 0);
            due(x.ways(0, 333333, 333333), 0);
            due(x.ways(0, 333334, 499999), 0);
            due(x.ways(0, 333334, 500000), 1);
            due(x.ways(0, 250000, 333333), 1);
            due(x.ways(0, 250001, 333333), 0);
        });
        S.test(16, "some PERIOD P from LOW to HIGH (any fraction)", x -> {
            // 1000 by 3 counts and 2001 by 6 need PERIODS of their own
            Sky.arrivals(x, 0, 0, 0, 1000, 2001);
            due(x.ways(0, 300000, 350000), 0);
            x.clear(0);
            x.arrival(0, 0, 0, 0, 0);
            x.arrival(0, 1000, 0, 0, 0);
            x.arrival(0, 2001, 1, 0, 0);
            due(x.ways(0, 300000, 350000), 1);
            due(x.way(0, 2), 6);
        });
        S.test(16, "some PERIOD P from LOW to HIGH (any fraction)", x -> {
            // by 1 count PERIODS from 990 to 1010, by 100 from 1010 to 1010.02, by 101 at most 1000.02
            x.arrival(0, 0, 0, 0, 0);
            x.arrival(0, 1000, 10, 0, 0);
            x.arrival(0, 101001, 1, 0, 0);
            due(x.ways(0, 1005000, 1100000), 1);
            due(x.way(0, 2), 100);
            due(x.ways(0, 1010000, 1010000), 1);
            x.clear(0);
            x.arrival(0, 0, 0, 0, 0);
            x.arrival(0, 1000, 10, 0, 0);
            x.arrival(0, 101002, 1, 0, 0);
            due(x.ways(0, 1005000, 1100000), 0);
        });
        S.test(16, "(count times P by 1000) by ERR k and ERR 0 together at most", x -> {
            x.arrival(0, 0, 2, 0, 0);
            x.arrival(0, 1000, 3, 0, 0);
            due(x.ways(0, 1005000, 1100000), 1);
            due(x.ways(0, 1005001, 1100000), 0);
            due(x.ways(0, 900000, 995000), 1);
            due(x.ways(0, 900000, 994999), 0);
        });
        S.test(16, "(count times P by 1000) by ERR k and ERR 0 together at most", x -> {
            x.arrival(0, 0, 1000, 0, 0);
            x.arrival(0, 10000, 1000, 0, 0);
            due(x.ways(0, 12000000, 100000000), 1);
            due(x.ways(0, 12000001, 100000000), 0);
            due(x.ways(0, 7000000, 8000000), 1);
            due(x.ways(0, 7000000, 7999999), 0);
        });
        S.test(16, "for each ARRIVAL k from 1 on, CORRECTED k less CORRECTED 0", x -> {
            x.offset(0, 30);
            x.offset(1, -20);
            x.shift(1, 0, 7);
            x.arrival(0, 500, 0, 0, 0);
            x.arrival(0, 1500, 0, 1, 0);
            due(x.ways(0, 1050000, 1050000), 1);
            due(x.ways(0, 1000000, 1049999), 0);
            x.rule(0, 1);
            x.arrival(0, 100500, 50, 0, 0);
            due(x.ways(0, 1050000, 1050000), 0);
            due(x.ways(0, 1049999, 1050000), 0);
            x.shift(1, 1, 307);
            due(x.ways(0, 1050000, 1050000), 0);
            x.clear(0);
            x.arrival(0, 500, 0, 0, 0);
            x.arrival(0, 99500, 0, 0, 0);
            x.arrival(0, 100500, 0, 0, 0);
            due(x.ways(0, 99000000, 99000000), 0);
            due(x.ways(0, 1300000, 1300000), 0);
            due(x.ways(0, 100000, 100000), 1);
            due(x.way(0, 1), 990);
            due(x.way(0, 2), 1003);
        });
    }

    private static void orderOfWays() {
        S.test(16, "In order: by the count of ARRIVAL 1, then 2, ..: the lesser first.", x -> {
            Sky.arrivals(x, 0, 0, 0, 10000, 20000);
            due(x.ways(0, 1000000, 5000000), 9);
            for (int i = 0; i < 9; i++) {
                due(x.way(i, 0), 0);
                due(x.way(i, 1), i + 2);
                due(x.way(i, 2), 2 * (i + 2));
            }
        });
        S.test(16, "In order: by the count of ARRIVAL 1, then 2, ..: the lesser first.", x -> {
            // ERR lets 1 and 2 counts go with PERIODS from 1000 to 1200, and 8 to 11 counts then
            x.arrival(0, 0, 1000, 0, 0);
            x.arrival(0, 1000, 1000, 0, 0);
            x.arrival(0, 10000, 500, 0, 0);
            due(x.ways(0, 1000000, 1200000), 11);
            int[][] rows = {{1, 8}, {1, 9}, {1, 10}, {1, 11}, {2, 8}, {2, 9}, {2, 10}, {2, 11}, {3, 9}, {3, 10}, {3, 11}};
            for (int i = 0; i < 11; i++) {
                due(x.way(i, 1), rows[i][0]);
                due(x.way(i, 2), rows[i][1]);
            }
        });
    }

    private static void spent() {
        S.test(16, "SPENT: more than 500 WAYS", x -> {
            Sky.arrivals(x, 0, 0, 0, 50100);
            due(x.ways(0, 100200, 50100000), 500);
            due(x.way(0, 1), 1);
            due(x.way(499, 1), 500);
            due(x.count(3), 500);
            due(x.ways(0, 100000, 50100000), SPENT);
            due(x.count(3), 0);
            due(x.ways(0, 100000, 50099999), 500);
            due(x.way(499, 1), 501);
        });
        S.test(16, "or more than 20000 counts tried", x -> {
            for (int k = 0; k < TIMES.length; k++) {
                x.arrival(0, TIMES[k], ERRS[k], 0, 0);
            }
            due(x.ways(0, 100249, 100000000), 9);
            due(x.ways(0, 100248, 100000000), SPENT);
            due(x.count(3), 0);
            due(x.ways(0, 100249, 100000000), 9);
        });
        S.test(16, "of each ARRIVAL all that some PERIOD allows that the counts ahead (one such row by itself) allow", x -> {
            due(slowTried(1, 0, 100249, 100000000), 20000);
            due(slowTried(1, 0, 100248, 100000000), 20001);
        });
        S.test(16, "SPENT. They stay for what is asked below, till ways() is asked again.", x -> {
            Sky.arrivals(x, 0, 0, 0, 1000);
            due(x.ways(0, 1000000, 1000000), 1);
            Sky.spend(x);
            due(x.count(3), 0);
            due(x.way(0, 0), -2);
            due(x.sure(0), -2);
            due(x.fit(0, 0), Sky.NO_LONG);
            due(x.left(2000000, 0), -2);
            due(x.look(2000000, 1, 1, 0), -2);
            due(x.ways(0, 1000000, 1000000), 1);
            due(x.way(0, 1), 1);
        });
        S.test(16, "SPENT. They stay for what is asked below, till ways() is asked again.", x -> {
            Sky.spend(x);
            due(x.ways(0, 1000000, 1000000), -2);
            due(x.way(0, 0), -2);
            due(x.ways(0, 1000000, 999999), -1);
            due(x.sure(0), -2);
        });
        S.test(16, "They stay for what is asked below, till ways() is asked again.", x -> {
            Sky.arrivals(x, 0, 3, 100, 1103, 2100);
            due(x.ways(0, 990000, 1010000), 1);
            asTheyWere(x);
            x.offset(0, 500);
            x.shift(0, 0, 100);
            x.rule(0, 1);
            x.rule(1, 0);
            asTheyWere(x);
            x.arrival(0, 50, 0, 0, 0);
            x.clear(0);
            due(x.ways(0, 990000, 1010000), -2);
            due(x.ways(0, 99999, 1010000), -1);
            due(x.ways(4, 990000, 1010000), -1);
            asTheyWere(x);
            Sky.arrivals(x, 1, 0, 0, 1000);
            due(x.ways(1, 2000000, 2000000), 0);
            due(x.count(3), 0);
            due(x.way(0, 2), -2);
            due(x.way(0, 1), NONE);
        });
    }

    /** How many counts there are to try behind a row that ends with the count ahead and allows PERIODS from low to high. */
    private static int slowTried(int k, int ahead, double low, double high) {
        if (k == TIMES.length) {
            return 0;
        }
        int sum = 0;
        double least = 1000.0 * (TIMES[k] - ERRS[k]);
        double greatest = 1000.0 * (TIMES[k] + ERRS[k]);
        for (int c = ahead + 1; c * low <= greatest * (1 + 1e-14); c++) {
            if (c * high >= least * (1 - 1e-14)) {
                sum += 1 + slowTried(k + 1, c, Math.max(low, least / c), Math.min(high, greatest / c));
            }
        }
        return sum;
    }

    private static void asTheyWere(SkyClocks x) {
        due(x.count(3), 1);
        due(x.way(0, 1), 1);
        due(x.way(0, 2), 2);
        due(x.way(0, 3), -2);
        due(x.sure(2), 2);
        due(x.fit(0, 0), 101);
        due(x.fit(0, 2), 1000);
        due(x.fit(0, 4), 0);
        due(x.left(2099, 0), -2);
        due(x.left(3100, 0), 1);
        due(x.look(2100, 1000, 2, 0), 3100);
    }

    private static void way() {
        S.test(17, "The count of ARRIVAL k (0 to 23)", x -> {
            for (int k = 0; k < 24; k++) {
                x.arrival(0, 1000 * k, 0, 0, 0);
            }
            due(x.ways(0, 1000000, 1000000), 1);
            due(x.way(0, 0), 0);
            due(x.way(0, 23), 23);
            for (int k : new int[] {LEAST, -1, 24, GREATEST}) {
                due(x.way(0, k), -1);
            }
        });
        S.test(17, "BAD; NO: none were asked, SPENT, no such ARRIVAL then", x -> {
            due(x.way(0, 0), -2);
            due(x.way(0, 23), -2);
            due(x.way(1000, 0), -2);
            due(x.way(-1, 0), -1);
            due(x.way(0, -1), -1);
            due(x.way(0, 24), -1);
            due(x.ways(0, 1000000, 1000000), -2);
            due(x.way(0, 0), -2);
            Sky.arrivals(x, 0, 0, 0, 1000);
            due(x.way(0, 0), -2);
            due(x.ways(0, 1000000, 1000000), 1);
            due(x.way(0, 1), 1);
            due(x.way(0, 2), -2);
            x.arrival(0, 2000, 0, 0, 0);
            due(x.way(0, 2), -2);
            due(x.way(0, 24), -1);
            Sky.spend(x);
            due(x.way(0, 0), -2);
            due(x.way(-1, 0), -1);
        });
        S.test(17, "NONE: not so many WAYS.", x -> {
            Sky.arrivals(x, 0, 0, 0, 1000);
            due(x.ways(0, 500000, 1000000), 2);
            due(x.way(1, 1), 2);
            due(x.way(2, 1), NONE);
            due(x.way(2, 0), NONE);
            due(x.way(GREATEST, 1), NONE);
            due(x.way(2, 2), -2);
            due(x.way(LEAST, 1), -1);
            due(x.ways(0, 600000, 600000), 0);
            due(x.way(0, 0), NONE);
            due(x.way(0, 2), -2);
        });
        S.test(17, "NONE: not so many WAYS.", x -> {
            Sky.arrivals(x, 0, 0, 0, 50000);
            due(x.ways(0, 100000, 50000000), 500);
            due(x.way(499, 1), 500);
            due(x.way(500, 1), NONE);
        });
    }

    private static void sure() {
        S.test(18, "SURE is the count of an ARRIVAL, if it is one in all WAYS.", x -> {
            Sky.arrivals(x, 0, 5, 0, 1000, 200000);
            due(x.ways(0, 999000, 1001000), 1);
            due(x.sure(0), 0);
            due(x.sure(1), 1);
            due(x.sure(2), 200);
            due(x.ways(0, 999000, 1010000), 2);
            due(x.sure(0), 0);
            due(x.sure(1), 1);
            due(x.sure(2), NONE);
        });
        S.test(18, "SURE is the count of an ARRIVAL, if it is one in all WAYS.", x -> {
            Sky.arrivals(x, 0, 0, 0, 50000);
            due(x.ways(0, 100000, 50000000), 500);
            due(x.sure(0), 0);
            due(x.sure(1), NONE);
            due(x.ways(0, 25000000, 50000000), 2);
            due(x.sure(1), NONE);
            due(x.ways(0, 25000001, 50000000), 1);
            due(x.sure(1), 1);
        });
        S.test(18, "NONE: it is not, or no WAY is. BAD; NO.", x -> {
            due(x.sure(0), -2);
            due(x.sure(23), -2);
            for (int k : new int[] {LEAST, -1, 24, GREATEST}) {
                due(x.sure(k), -1);
            }
            Sky.arrivals(x, 0, 0, 0, 1000);
            due(x.sure(0), -2);
            due(x.ways(0, 600000, 600000), 0);
            due(x.sure(0), NONE);
            due(x.sure(1), NONE);
            due(x.sure(2), -2);
            due(x.sure(24), -1);
            Sky.spend(x);
            due(x.sure(0), -2);
        });
        S.test(18, "NONE: it is not, or no WAY is. BAD; NO.", x -> {
            for (int k = 0; k < 24; k++) {
                x.arrival(0, 1000 * k, 0, 0, 0);
            }
            due(x.ways(0, 1000000, 1000000), 1);
            due(x.sure(23), 23);
            due(x.sure(24), -1);
        });
    }

    private static void fitIs(SkyClocks x, long... want) {
        for (int what = 0; what < want.length; what++) {
            due(x.fit(0, what), want[what]);
        }
    }

    private static void fit() {
        S.test(19, "fractions in lowest terms, what is below above 0", x -> {
            Sky.arrivals(x, 0, 3, 100, 1103, 2100);
            due(x.ways(0, 990000, 1010000), 1);
            fitIs(x, 101, 1, 1000, 1, 0);
        });
        S.test(19, "fractions in lowest terms, what is below above 0", x -> {
            // CORRECTED 0, 0 + 1000 and 2003: y 2003 / 2, x - 1 / 2
            Sky.arrivals(x, 0, 1, 0, 1000, 2003);
            due(x.ways(0, 990000, 1010000), 1);
            fitIs(x, -1, 2, 2003, 2, 0);
        });
        S.test(19, "fractions in lowest terms, what is below above 0", x -> {
            Sky.arrivals(x, 0, 0, 0, 1000);
            due(x.ways(0, 300000, 340000), 1);
            fitIs(x, 0, 1, 1000, 3, 0);
            x.offset(0, 1000);
            due(x.ways(0, 300000, 340000), 1);
            fitIs(x, -1000, 1, 1000, 3, 0);
        });
        S.test(19, "fractions in lowest terms, what is below above 0", x -> {
            // CORRECTED 500, - 400: y - 900, x 500
            x.offset(1, 1000);
            x.arrival(0, 500, 1000, 0, 0);
            x.arrival(0, 600, 1000, 1, 0);
            due(x.ways(0, 1000000, 1000000), 1);
            fitIs(x, 500, 1, -900, 1, 0);
            x.offset(1, 100);
            due(x.ways(0, 1500000, 1500000), 1);
            fitIs(x, 500, 1, 0, 1, 0);
        });
        S.test(19, "fractions in lowest terms, what is below above 0", x -> {
            // the greatest there are: 24 ARRIVALS, counts up to 10015, times from -1500 to 1001500
            x.offset(0, 1000);
            x.offset(1, -1000);
            x.shift(0, 0, -500);
            x.shift(0, 10, 500);
            for (int k = 0; k < 24; k++) {
                x.arrival(0, k == 23 ? 1000000 : 43000 * k + k * k % 7, k == 23 ? 30 : 10, k == 23 ? 1 : 0, 0);
            }
            due(x.ways(0, 100000, 100000), 1);
            due(x.way(0, 23), 10030);
            long[] want = slowFit(x, 0, 24);
            fitIs(x, want[0], want[1], want[2], want[3]);
        });
        S.test(19, "x, y for which the sum of squares of (CORRECTED less x less count times y) is least", x -> {
            int[] times = {70, 1061, 3083, 4070, 9068, 10072};
            Sky.arrivals(x, 0, 9, times);
            due(x.ways(0, 990000, 1010000), 1);
            long[] want = slowFit(x, 0, times.length);
            fitIs(x, want[0], want[1], want[2], want[3]);
            // so near to it no other x, y has a lesser sum
            double[] xy = {(double) want[0] / want[1], (double) want[2] / want[3]};
            double least = squares(x, times, xy[0], xy[1]);
            due(squares(x, times, xy[0] + 0.01, xy[1]) > least ? 1 : 0, 1);
            due(squares(x, times, xy[0] - 0.01, xy[1]) > least ? 1 : 0, 1);
            due(squares(x, times, xy[0], xy[1] + 0.001) > least ? 1 : 0, 1);
            due(squares(x, times, xy[0], xy[1] - 0.001) > least ? 1 : 0, 1);
        });
        S.test(19, "OUTSIDE are ARRIVALS which it misses by more than ERR.", x -> {
            // it misses by 1/2, -1, 1/2
            int[][] errsOutside = {{1, 1, 1, 0}, {1, 0, 1, 1}, {0, 1, 1, 1}, {1, 1, 0, 1}, {2, 0, 0, 2}};
            for (int[] e : errsOutside) {
                x.clear(0);
                x.arrival(0, 0, e[0], 0, 0);
                x.arrival(0, 1000, e[1], 0, 0);
                x.arrival(0, 2003, e[2], 0, 0);
                due(x.ways(0, 990000, 1010000), 1);
                fitIs(x, -1, 2, 2003, 2, e[3]);
            }
        });
        S.test(19, "FIT of WAY i", x -> {
            Sky.arrivals(x, 0, 0, 0, 1000);
            due(x.ways(0, 500000, 1000000), 2);
            due(x.fit(0, 3), 1);
            due(x.fit(1, 2), 500);
            for (int i : new int[] {2, 499, 500, GREATEST}) {
                due(x.fit(i, 0), Sky.NO_LONG);
            }
            for (int i : new int[] {LEAST, -1}) {
                due(x.fit(i, 0), Sky.BAD_LONG);
            }
        });
        S.test(19, "FIT of WAY i", x -> {
            Sky.arrivals(x, 0, 0, 0, 50000);
            due(x.ways(0, 100000, 50000000), 500);
            due(x.fit(499, 2), 100);
            due(x.fit(500, 2), Sky.NO_LONG);
        });
        S.test(19, "x above (what = 0), below (1), y above (2), below (3), how many are OUTSIDE (4)", x -> {
            Sky.arrivals(x, 0, 0, 0, 1000);
            due(x.ways(0, 1000000, 1000000), 1);
            due(x.fit(0, 0), 0);
            due(x.fit(0, 4), 0);
            for (int what : new int[] {LEAST, -1, 5, GREATEST}) {
                due(x.fit(0, what), Sky.BAD_LONG);
                due(x.fit(1, what), Sky.BAD_LONG);
            }
        });
        S.test(19, "BAD -1000000000000000000; NO, NONE -1000000000000000002.", x -> {
            due(x.fit(0, 0), -1000000000000000002L);
            due(x.fit(-1, 0), -1000000000000000000L);
            due(x.fit(0, 5), -1000000000000000000L);
            Sky.arrivals(x, 0, 0, 0, 1000);
            due(x.ways(0, 600000, 600000), 0);
            due(x.fit(0, 0), -1000000000000000002L);
            due(x.fit(0, 4), -1000000000000000002L);
            Sky.spend(x);
            due(x.fit(0, 0), -1000000000000000002L);
            due(x.fit(-1, 0), -1000000000000000000L);
        });
    }

    /** x and y, each above and below: what solves n x + y (sum of counts) = sum of times, and the like times counts. */
    private static long[] slowFit(SkyClocks sky, int star, int n) {
        BigInteger[] sums = {BigInteger.ZERO, BigInteger.ZERO, BigInteger.ZERO, BigInteger.ZERO};
        for (int k = 0; k < n; k++) {
            long c = sky.way(0, k);
            long t = sky.at(star, k, 4);
            long[] more = {c, t, c * c, c * t};
            for (int i = 0; i < 4; i++) {
                sums[i] = sums[i].add(BigInteger.valueOf(more[i]));
            }
        }
        BigInteger many = BigInteger.valueOf(n);
        BigInteger below = many.multiply(sums[2]).subtract(sums[0].multiply(sums[0]));
        BigInteger x = sums[1].multiply(sums[2]).subtract(sums[0].multiply(sums[3]));
        BigInteger y = many.multiply(sums[3]).subtract(sums[0].multiply(sums[1]));
        BigInteger byX = x.gcd(below);
        BigInteger byY = y.gcd(below);
        return new long[] {x.divide(byX).longValueExact(), below.divide(byX).longValueExact(),
            y.divide(byY).longValueExact(), below.divide(byY).longValueExact()};
    }

    private static double squares(SkyClocks sky, int[] times, double x, double y) {
        double sum = 0;
        for (int k = 0; k < times.length; k++) {
            double off = times[k] - x - sky.way(0, k) * y;
            sum += off * off;
        }
        return sum;
    }

    private static void left() {
        S.test(20, "a time t with ERR e (0 to 1000)", x -> {
            Sky.arrivals(x, 0, 0, 0, 1000);
            x.ways(0, 1000000, 1000000);
            due(x.left(3000, 0), 1);
            due(x.left(4000, 1000), 1);
            for (int e : new int[] {LEAST, -1, 1001, GREATEST}) {
                due(x.left(3000, e), -1);
            }
        });
        S.test(20, "LEFT. BAD (t 0 to 2000000)", x -> {
            due(x.left(0, 0), -2);
            due(x.left(2000000, 0), -2);
            for (int t : new int[] {LEAST, -1, 2000001, GREATEST}) {
                due(x.left(t, 0), -1);
            }
            x.offset(0, 1000);
            Sky.arrivals(x, 0, 0, 0, 1000);
            due(x.ways(0, 1000000, 1000000), 1);
            due(x.left(-1, 0), -1);
            due(x.left(0, 0), 0);
            due(x.left(1000, 0), 1);
            due(x.left(2000000, 0), 1);
            due(x.left(2000001, 0), -1);
        });
        S.test(20, "NO: none were asked, SPENT, t is ahead of the last CORRECTED.", x -> {
            due(x.left(0, 0), -2);
            Sky.arrivals(x, 0, 0, 0, 1000);
            due(x.left(5000, 0), -2);
            x.ways(0, 1000000, 1000000);
            due(x.left(999, 0), -2);
            due(x.left(1000, 0), 0);
            due(x.left(1000, 1000), 1);
            x.offset(0, 7);
            due(x.left(999, 0), -2);
            x.ways(0, 1000000, 1000000);
            due(x.left(992, 0), -2);
            due(x.left(993, 0), 0);
            due(x.ways(0, 600000, 600000), 0);
            due(x.left(992, 1000), -2);
            due(x.left(993, 1000), 0);
            Sky.spend(x);
            due(x.left(2000000, 0), -2);
            due(x.left(2000001, 0), -1);
        });
        S.test(20, "(CORRECTED; at or behind that of the last one)", x -> {
            // of the last in order of AT, though one ahead of it has a greater CORRECTED
            x.offset(1, 1000);
            x.arrival(0, 0, 1000, 0, 0);
            x.arrival(0, 5000, 1000, 0, 0);
            x.arrival(0, 5500, 1000, 1, 0);
            due(x.ways(0, 1000000, 1000000) > 0 ? 1 : 0, 1);
            due(x.left(4499, 0), -2);
            due(x.left(4500, 1000) >= 0 ? 1 : 0, 1);
        });
        S.test(20, "that is: have some count more", x -> {
            x.arrival(0, 0, 2, 0, 0);
            x.arrival(0, 1000, 0, 0, 0);
            due(x.ways(0, 1000000, 1000000), 1);
            int[][] lookLeft = {{1997, 0, 0}, {1997, 1, 1}, {1998, 0, 1}, {2000, 0, 1}, {2002, 0, 1}, {2003, 0, 0}, {2003, 1, 1},
                {1000, 997, 0}, {1000, 998, 1}, {1500, 497, 0}, {1500, 498, 1}, {2500, 497, 0}, {2500, 498, 1},
                {2000000, 0, 1}, {1999997, 0, 0}};
            for (int[] l : lookLeft) {
                due(x.left(l[0], l[1]), l[2]);
            }
        });
        S.test(20, "how many WAYS go on to an ARRIVAL at t", x -> {
            Sky.arrivals(x, 0, 5, 0, 1000, 200000);
            due(x.ways(0, 900000, 1100000), 4);
            due(x.left(201000, 0), 4);
            due(x.left(210000, 0), 1);
            due(x.left(210000, 36), 3);
            due(x.left(200500, 100), 0);
            due(x.left(200000, 0), 0);
            due(x.ways(0, 800000, 800000), 0);
            due(x.left(201000, 1000), 0);
        });
        S.test(20, "how many WAYS go on to an ARRIVAL at t", x -> {
            Sky.arrivals(x, 0, 0, 0, 50000);
            due(x.ways(0, 100000, 50000000), 500);
            due(x.left(100000, 0), 500);
            due(x.left(50100, 0), 1);
            due(x.left(50099, 0), 0);
        });
    }

    private static void look() {
        S.test(21, "(n of them, 1 to 20; step 1 to 100000)", x -> {
            Sky.arrivals(x, 0, 0, 0, 1000);
            x.ways(0, 1000000, 1000000);
            due(x.look(2000, 1, 1, 0), 2000);
            due(x.look(2000, 1, 20, 0), 2000);
            due(x.look(2000, 100000, 1, 0), 2000);
            due(x.look(1981, 1, 20, 0), 2000);
            due(x.look(1980, 1, 20, 0), NONE);
            for (int n : new int[] {LEAST, -1, 0, 21, GREATEST}) {
                due(x.look(2000, 1, n, 0), -1);
            }
            for (int step : new int[] {LEAST, -1, 0, 100001, GREATEST}) {
                due(x.look(2000, step, 1, 0), -1);
            }
        });
        S.test(21, "Of looks at t, t + step, .. (n of them", x -> {
            Sky.arrivals(x, 0, 0, 0, 1000);
            x.ways(0, 1000000, 1000000);
            due(x.look(1001, 100, 10, 0), NONE);
            due(x.look(1100, 100, 10, 0), 2000);
            due(x.look(1100, 100, 9, 0), NONE);
            due(x.look(1999, 1, 2, 0), 2000);
            due(x.look(1999, 1, 1, 0), NONE);
            due(x.look(2500, 50000, 20, 0), NONE);
            due(x.look(2500, 50000, 20, 500), 2500);
            due(x.look(1500, 99500, 2, 0), 101000);
            due(x.look(99900, 95005, 21, 0), -1);
            due(x.look(99901, 95003, 20, 0), NONE);
        });
        S.test(21, "Of looks at t, t + step, .. (n of them", x -> {
            Sky.arrivals(x, 0, 0, 0, 1000);
            x.ways(0, 1000000, 1000000);
            due(x.look(1999, 100000, 20, 1), 1999);
            due(x.look(2000000, 1, 1, 0), 2000000);
            due(x.look(1950, 50, 2, 0), 2000);
        });
        S.test(21, "a time t with ERR e (0 to 1000)", x -> {
            Sky.arrivals(x, 0, 0, 0, 1000);
            x.ways(0, 1000000, 1000000);
            due(x.look(1000, 1, 1, 1000), 1000);
            due(x.look(1000, 1, 1, 999), NONE);
            due(x.look(2000, 1, 1, 0), 2000);
            for (int e : new int[] {LEAST, -1, 1001, GREATEST}) {
                due(x.look(2000, 1, 1, e), -1);
            }
        });
        S.test(21, "BAD (one beyond 2000000); NO likewise.", x -> {
            for (int t : new int[] {LEAST, -1, 2000001, GREATEST}) {
                due(x.look(t, 1, 1, 0), -1);
            }
            due(x.look(0, 1, 1, 0), -2);
            due(x.look(1999999, 1, 2, 0), -2);
            due(x.look(1999999, 1, 3, 0), -1);
            due(x.look(2000000, 1, 2, 0), -1);
            due(x.look(2000000, 100000, 1, 0), -2);
            due(x.look(100000, 100000, 20, 0), -2);
            due(x.look(100001, 100000, 20, 0), -1);
            Sky.arrivals(x, 0, 0, 0, 1000);
            due(x.look(5000, 1, 1, 0), -2);
            x.ways(0, 1000000, 1000000);
            due(x.look(999, 1, 20, 1000), -2);
            due(x.look(1000, 1, 20, 1000), 1000);
            due(x.look(1999999, 1, 2, 0), 2000000);
            due(x.look(1999999, 1, 3, 0), -1);
            due(x.look(100000, 100000, 20, 0), 100000);
            due(x.look(999, 1, 0, 0), -1);
            Sky.spend(x);
            due(x.look(2000000, 1, 1, 0), -2);
            due(x.look(2000001, 1, 1, 0), -1);
        });
        S.test(21, "by which fewest WAYS are LEFT, but one at least; of several the earliest: its time.", x -> {
            Sky.arrivals(x, 0, 5, 0, 1000, 200000);
            due(x.ways(0, 900000, 1100000), 4);
            due(x.look(201000, 9000, 2, 0), 210000);
            due(x.look(200500, 500, 2, 0), 201000);
            due(x.look(201000, 1, 20, 1000), 201000);
            due(x.look(209999, 1, 3, 0), 209999);
            due(x.look(200500, 9500, 2, 0), 210000);
            due(x.left(209975, 36), 2);
            due(x.left(210000, 36), 3);
            due(x.left(210025, 36), 2);
            due(x.look(209975, 25, 2, 36), 209975);
            due(x.look(209975, 25, 3, 36), 209975);
            due(x.look(210000, 25, 2, 36), 210025);
        });
        S.test(21, "by which fewest WAYS are LEFT, but one at least; of several the earliest: its time.", x -> {
            Sky.arrivals(x, 0, 0, 0, 50000);
            due(x.ways(0, 100000, 50000000), 500);
            due(x.look(100000, 1, 1, 0), 100000);
            due(x.look(100000, 100000, 20, 0), 100000);
            due(x.look(50099, 1, 2, 0), 50100);
        });
        S.test(21, "NONE; BAD (one beyond 2000000)", x -> {
            Sky.arrivals(x, 0, 0, 0, 1000);
            due(x.ways(0, 600000, 600000), 0);
            due(x.look(1000, 100, 20, 1000), NONE);
            due(x.ways(0, 1000000, 1000000), 1);
            due(x.look(1500, 1000, 20, 499), NONE);
            due(x.look(1500, 1000, 20, 500), 1500);
        });
    }

    public static void main(String[] args) {
        rangesOfWays();
        rowsOfCounts();
        orderOfWays();
        spent();
        way();
        sure();
        fit();
        left();
        look();
        S.end(16, 21);
    }
}
