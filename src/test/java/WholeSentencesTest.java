import java.math.BigInteger;
import java.util.ArrayList;
import java.util.Arrays;
import java.util.List;

/** Sentences as a whole: each is held against the slowest way that its words allow, or against what other calls tell. */
public final class WholeSentencesTest {
    private static final int NO = -2, NONE = -4;
    private static final long MILLION = 1000000L;
    private static final Sentences S = new Sentences();

    private static void due(long got, long want) {
        S.due(got, want);
    }

    private static void holds(boolean kept) {
        S.due(kept ? 1 : 0, 1);
    }

    // ---- texts, turns

    /** All orders of some texts, each order joined to one text. */
    private static void orders(List<String> left, String told, List<String> all) {
        if (left.isEmpty()) {
            all.add(told);
        }
        for (int i = 0; i < left.size(); i++) {
            List<String> others = new ArrayList<>(left);
            orders(others, told + others.remove(i), all);
        }
    }

    private static void itemsInAnyOrder() {
        S.test(12, "pN PERIOD (100000 to 100000000, thousandths); just once, the first ITEM zN the time of turn 0 (0 to 1000000); "
                + "once at most dN by N millionths (-100000 to 100000) each turn takes longer than the one ahead; once at most "
                + "sT,N a SLIP: turns that begin at time T", x -> {
            List<String> all = new ArrayList<>();
            orders(List.of("z70;", "d-9;", "s300,40;", "c5,1,2,3,4;", "s470,-7;"), "", all);
            due(all.size(), 120);
            // turns begin at 70, 170, 269.999991, 369.999973 and, by 40 - 9 / 1000 more, 470.039946, by 33 - .. 570.072910
            long[] comes = {70001000, 170001000, 269999991 + 2000, 369999973 + 3000, 470039946 + 4000, 570072910 + 1000};
            for (String items : all) {
                SkyClocks y = new SkyClocks();
                due(Sky.model(y, 0, "p100000;" + items), 6);
                for (int n = 0; n < comes.length; n++) {
                    due(y.comes(0, n), comes[n]);
                }
                for (String item : new String[] {"p100000;", "z70;", "d-9;"}) {
                    Sky.write(y, item);
                    due(y.fault(), 8 + items.length());
                    due(Sky.model(y, 0, "p100000;" + items), 6);
                }
            }
        });
    }

    /** Where turns begin, each behind the one ahead; and some that begin too late to be there. */
    private static long[] begins(int period, int zero, int drift, int[][] slips) {
        long[] begins = new long[10001];
        begins[0] = zero * MILLION;
        for (int n = 0; n < 10000; n++) {
            long behind = 1000L * period + (long) n * drift;
            for (int[] slip : slips) {
                behind += slip[0] * MILLION <= begins[n] ? 1000L * slip[1] : 0;
            }
            begins[n + 1] = begins[n] + Math.max(behind, MILLION);
        }
        return begins;
    }

    private static void turnsAre(int period, int zero, int drift, int[]... slips) {
        StringBuilder told = new StringBuilder("p" + period + ";z" + zero + ";d" + drift + ";");
        for (int[] slip : slips) {
            told.append("s").append(slip[0]).append(",").append(slip[1]).append(";");
        }
        SkyClocks x = new SkyClocks();
        due(Sky.model(x, 0, told.toString()), 3 + slips.length);
        long[] begins = begins(period, zero, drift, slips);
        for (int n = 0; n <= 10000; n += n < 200 ? 1 : 49) {
            due(x.comes(0, n), begins[n] <= 2000000 * MILLION ? begins[n] : -2);
        }
    }

    private static void turns() {
        S.test(13, "TURNS of a MODEL, in millionths of time: turn 0 begins at z (0 without); turn n + 1 begins PERIOD times 1000, "
                + "n times d, and 1000 times each SLIP of which T times 1000000 is at most where turn n begins, together, "
                + "behind turn n (at least 1000000 behind it).", x -> {
            turnsAre(100000, 0, 0);
            turnsAre(100000, 0, -9, new int[] {500, 50000}, new int[] {20000, -50000}, new int[] {20000, -30000});
            turnsAre(100000, 7, 100000, new int[] {7, -50000}, new int[] {300000, -50000}, new int[] {1000000, 50000});
            turnsAre(123457, 89, 11, new int[] {1000000, 1}, new int[] {999999, -2}, new int[] {0, 3});
            turnsAre(100000, 1000000, -100000, new int[] {1000000, 50000}, new int[] {999999, 50000});
            turnsAre(149000, 3, -5, new int[] {0, -50000}, new int[] {1000, -50000}, new int[] {3000, -48000});
            turnsAre(100000000, 999999, 100000);
        });
        S.test(13, "turn n comes A, B, C or D thousandths (-50000 to 50000 each) later, by which quarter "
                + "(4 times (n modulo Q) by Q, cut) of Q turns (4 to 1000); 2 at most", x -> {
            int[] late = {50000, -50000, 49999, -7};
            for (int cycle = 4; cycle <= 1000; cycle++) {
                SkyClocks y = new SkyClocks();
                Sky.model(y, 0, "p100000;c" + cycle + ",50000,-50000,49999,-7;");
                for (int first : new int[] {0, cycle, 10000 / cycle * cycle - cycle}) {
                    for (int n = 0; n < cycle; n += cycle < 40 ? 1 : n % 25 == 24 ? 1 : 24) {
                        int quarter = (4 * n >= cycle ? 1 : 0) + (4 * n >= 2 * cycle ? 1 : 0) + (4 * n >= 3 * cycle ? 1 : 0);
                        due(y.comes(0, first + n) - 100000 * 1000L * (first + n), 1000 * late[quarter]);
                    }
                }
            }
        });
        S.test(13, "turn n comes A, B, C or D thousandths (-50000 to 50000 each) later, by which quarter "
                + "(4 times (n modulo Q) by Q, cut) of Q turns (4 to 1000); 2 at most", x -> {
            for (int cycle = 4; cycle <= 1000; cycle++) {
                SkyClocks y = new SkyClocks();
                Sky.model(y, 0, "p100000;c" + cycle + ",1,2,3,4;");
                for (int q = 1; q < 4; q++) {
                    int first = (q * cycle + 3) / 4;
                    due(y.comes(0, first - 1) - 100000 * 1000L * (first - 1), 1000 * q);
                    due(y.comes(0, first) - 100000 * 1000L * first, 1000 * (q + 1));
                }
                due(y.comes(0, cycle - 1) - 100000 * 1000L * (cycle - 1), 4000);
                due(y.comes(0, cycle) - 100000 * 1000L * cycle, 1000);
            }
        });
    }

    private static String wildModel(Numbers row) {
        StringBuilder told = new StringBuilder("p").append(row.from(100000, 150000)).append(";z").append(row.below(3000)).append(";");
        told.append("d").append(row.from(-3000, 3000)).append(";");
        for (int i = row.below(4); i > 0; i--) {
            told.append("s").append(row.below(9000)).append(",").append(row.from(-50000, 9000)).append(";");
        }
        for (int i = row.below(3); i > 0; i--) {
            told.append("c").append(row.from(4, row.below(2) == 0 ? 9 : 1000));
            for (int q = 0; q < 4; q++) {
                told.append(",").append(row.from(-50000, 50000));
            }
            told.append(";");
        }
        return told.toString();
    }

    private static long sizeCut(long v) {
        return v < 0 ? -Math.floorDiv(-v, MILLION) : Math.floorDiv(v, MILLION);
    }

    private static void nearestTurns() {
        Numbers row = new Numbers(15);
        S.test(15, "THE TURN of it is that one's number.", x -> {
            for (int i = 0; i < 60; i++) {
                SkyClocks y = new SkyClocks();
                due(Sky.model(y, 0, wildModel(row)) > 2 ? 1 : 0, 1);
                y.offset(0, row.from(-1000, 1000));
                y.shift(0, 0, row.from(-500, 500));
                y.arrival(0, row.below(i % 3 == 0 ? 1000000 : 12000), 5, 0, 0);
                long time = y.at(0, 0, 4) * MILLION;
                int turn = y.turn(0, 0);
                long off = time - y.comes(0, turn);
                due(y.residue(0, 0), sizeCut(off));
                for (int n = Math.max(0, turn - 210); n <= turn + 210 && n <= 10000 && y.comes(0, n) != -2; n++) {
                    long other = Math.abs(time - y.comes(0, n));
                    holds(n < turn ? other > Math.abs(off) : other >= Math.abs(off));
                }
            }
        });
    }

    // ---- ways

    /** Whether a PERIOD, above by below thousandths, is from LOW to HIGH, and lets each count of a row be. */
    private static boolean fits(int[][] timesErrs, int[] lowHigh, int[] row, long above, long below) {
        boolean fits = above >= lowHigh[0] * below && above <= lowHigh[1] * below;
        for (int k = 1; k < row.length; k++) {
            long off = Math.abs(1000L * (timesErrs[k][0] - timesErrs[0][0]) * below - row[k] * above);
            fits &= off <= 1000L * (timesErrs[k][1] + timesErrs[0][1]) * below;
        }
        return fits;
    }

    /** If some PERIOD lets a row be, one at an end of what LOW, HIGH or an ARRIVAL asks for does. */
    private static boolean isWay(int[][] timesErrs, int[] lowHigh, int[] row) {
        boolean is = fits(timesErrs, lowHigh, row, lowHigh[0], 1) || fits(timesErrs, lowHigh, row, lowHigh[1], 1);
        for (int k = 1; k < row.length; k++) {
            int time = timesErrs[k][0] - timesErrs[0][0];
            int err = timesErrs[k][1] + timesErrs[0][1];
            is |= fits(timesErrs, lowHigh, row, 1000L * (time - err), row[k]) || fits(timesErrs, lowHigh, row, 1000L * (time + err), row[k]);
        }
        return is;
    }

    /** All rows of counts up to 12, in their order, and of them the WAYS. */
    private static void slowWays(int[][] timesErrs, int[] lowHigh, int[] row, int k, List<int[]> all) {
        if (k == row.length) {
            if (isWay(timesErrs, lowHigh, row)) {
                all.add(row.clone());
            }
            return;
        }
        for (int count = row[k - 1] + 1; count <= 12; count++) {
            row[k] = count;
            slowWays(timesErrs, lowHigh, row, k + 1, all);
        }
    }

    /** ARRIVALS about turns 0 to 8 of some PERIOD, so many of them with so much ERR that more than one row may be. */
    private static int[][] someTimes(Numbers row) {
        int[][] timesErrs = new int[row.from(2, 5)][2];
        int period = row.from(100, 130);
        int first = row.from(50, 300);
        for (int k = 0, turn = 0; k < timesErrs.length; k++) {
            int err = row.below(row.below(3) == 0 ? 3 : 45);
            timesErrs[k][0] = first + turn * period + row.from(-err, err);
            timesErrs[k][1] = err;
            turn += 1 + row.below(Math.min(5, 9 - turn - timesErrs.length + k));
        }
        return timesErrs;
    }

    /** LOW and HIGH. */
    private static int[] someSpan(Numbers row) {
        int low = row.from(100000, 120000);
        return new int[] {low, low + row.below(row.below(3) == 0 ? 2000 : 60000)};
    }

    private static void tell(SkyClocks x, int star, int[][] timesErrs) {
        for (int[] one : timesErrs) {
            x.arrival(star, one[0], one[1], 0, 0);
        }
    }

    private static void allWays() {
        Numbers row = new Numbers(16);
        S.test(16, "WAYS of a STAR by PERIODS from LOW to HIGH (thousandths, 100000 to 100000000): rows of counts, 0 for ARRIVAL 0, "
                + "each above the one ahead, for which some PERIOD P from LOW to HIGH (any fraction) has, for each ARRIVAL k from "
                + "1 on, CORRECTED k less CORRECTED 0 off (count times P by 1000) by ERR k and ERR 0 together at most. In order: "
                + "by the count of ARRIVAL 1, then 2, ..: the lesser first.", x -> {
            int more = 0;
            for (int i = 0; i < 600; i++) {
                int[][] timesErrs = someTimes(row);
                int[] lowHigh = someSpan(row);
                List<int[]> all = new ArrayList<>();
                slowWays(timesErrs, lowHigh, new int[timesErrs.length], 1, all);
                SkyClocks y = new SkyClocks();
                tell(y, 2, timesErrs);
                due(y.ways(2, lowHigh[0], lowHigh[1]), all.size());
                for (int w = 0; w < Math.min(all.size(), 90); w++) {
                    for (int k = 0; k < timesErrs.length; k++) {
                        due(y.way(w, k), all.get(w)[k]);
                    }
                }
                more += all.size() > 2 ? 1 : 0;
            }
            holds(more > 15);
        });
        S.test(16, "WAYS: how many.", x -> {
            Sky.arrivals(x, 0, 0, 0, 30000);
            // a count c goes with PERIODS of 30000000 by c: one WAY for each from 30000000 by HIGH to 30000000 by LOW
            for (int many = 1; many <= 200; many++) {
                due(x.ways(0, 100000, (30000000 + 300 - many) / (301 - many)), many);
                due(x.count(3), many);
            }
        });
    }

    private static void latestWays() {
        Numbers row = new Numbers(17);
        S.test(17, "The count of ARRIVAL k (0 to 23) in WAY i of the latest ways().", x -> {
            for (int s = 0; s < 4; s++) {
                for (int k = 0; k < 2 + s; k++) {
                    x.arrival(s, 1000 * k * (s + 1), 0, 0, 0);
                }
            }
            for (int i = 0; i < 24; i++) {
                int s = row.below(4);
                due(x.ways(s, 1000000, 1000000), 1);
                for (int k = 0; k < 2 + s; k++) {
                    due(x.way(0, k), k * (s + 1));
                }
                due(x.way(0, 2 + s), NO);
                due(x.way(1, 1 + s), NONE);
            }
        });
        S.test(18, "The SURE count of ARRIVAL k. NONE: it is not, or no WAY is.", x -> {
            int sure = 0;
            for (int i = 0; i < 100; i++) {
                SkyClocks y = new SkyClocks();
                int[][] timesErrs = someTimes(row);
                tell(y, 0, timesErrs);
                int[] lowHigh = someSpan(row);
                int many = y.ways(0, lowHigh[0], lowHigh[1]);
                for (int k = 0; k < timesErrs.length; k++) {
                    int one = many > 0 ? y.way(0, k) : NONE;
                    for (int w = 1; w < Math.min(many, 60); w++) {
                        one = y.way(w, k) == one ? one : NONE;
                    }
                    due(y.sure(k), one);
                    sure += many > 1 && one > 0 ? 1 : 0;
                }
            }
            holds(sure > 3);
        });
    }

    private static BigInteger big(long v) {
        return BigInteger.valueOf(v);
    }

    /** By x and y that make the sum of squares least, the misses are 0 together, and 0 each times its count together. */
    private static void fits() {
        Numbers row = new Numbers(19);
        S.test(19, "FIT of a WAY: x, y for which the sum of squares of (CORRECTED less x less count times y) is least: "
                + "fractions in lowest terms, what is below above 0. OUTSIDE are ARRIVALS which it misses by more than ERR.", x -> {
            int seen = 0;
            for (int i = 0; i < 200; i++) {
                SkyClocks y = new SkyClocks();
                int[][] timesErrs = someTimes(row);
                y.offset(0, row.from(-1000, 1000));
                tell(y, 0, timesErrs);
                int many = y.ways(0, 100000, 170000);
                for (int w = 0; w < Math.min(many, 9); w++) {
                    oneFit(y, w, timesErrs.length);
                    seen++;
                }
            }
            holds(seen > 300);
        });
    }

    private static void oneFit(SkyClocks sky, int w, int n) {
        BigInteger xAbove = big(sky.fit(w, 0));
        BigInteger xBelow = big(sky.fit(w, 1));
        BigInteger yAbove = big(sky.fit(w, 2));
        BigInteger yBelow = big(sky.fit(w, 3));
        BigInteger missed = BigInteger.ZERO;
        BigInteger missedTimesCount = BigInteger.ZERO;
        BigInteger whole = xBelow.multiply(yBelow);
        int outside = 0;
        for (int k = 0; k < n; k++) {
            BigInteger count = big(sky.way(w, k));
            BigInteger miss = big(sky.at(0, k, 4)).multiply(whole).subtract(xAbove.multiply(yBelow))
                    .subtract(count.multiply(yAbove).multiply(xBelow));
            missed = missed.add(miss);
            missedTimesCount = missedTimesCount.add(miss.multiply(count));
            outside += miss.abs().compareTo(big(sky.at(0, k, 1)).multiply(whole)) > 0 ? 1 : 0;
        }
        due(missed.signum(), 0);
        due(missedTimesCount.signum(), 0);
        due(sky.fit(w, 4), outside);
        holds(xBelow.signum() > 0 && yBelow.signum() > 0);
        holds(xAbove.gcd(xBelow).equals(BigInteger.ONE) && yAbove.gcd(yBelow).equals(BigInteger.ONE));
    }

    /** How many of the first rows are different, if WAYS are asked with one ARRIVAL more. */
    private static int wentOn(int[][] timesErrs, int[] lowHigh, int t, int e) {
        SkyClocks x = new SkyClocks();
        tell(x, 0, timesErrs);
        x.arrival(0, t, e, 0, 0);
        int many = x.ways(0, lowHigh[0], lowHigh[1]);
        List<String> rows = new ArrayList<>();
        for (int w = 0; w < Math.min(many, 80); w++) {
            StringBuilder row = new StringBuilder();
            for (int k = 0; k < timesErrs.length; k++) {
                row.append(x.way(w, k)).append(' ');
            }
            if (!rows.contains(row.toString())) {
                rows.add(row.toString());
            }
        }
        return many > 80 ? -1 : rows.size();
    }

    private static void looks() {
        Numbers row = new Numbers(20);
        S.test(20, "LEFT by a look at a time t with ERR e (0 to 1000): how many WAYS go on to an ARRIVAL at t (CORRECTED; at or "
                + "behind that of the last one), that is: have some count more.", x -> {
            int some = 0;
            for (int i = 0; i < 250; i++) {
                int[][] timesErrs = someTimes(row);
                int[] lowHigh = someSpan(row);
                SkyClocks y = new SkyClocks();
                tell(y, 0, timesErrs);
                int many = y.ways(0, lowHigh[0], lowHigh[1]);
                for (int j = 0; j < 4; j++) {
                    int t = timesErrs[timesErrs.length - 1][0] + row.below(700);
                    int e = row.below(2) == 0 ? 0 : row.below(40);
                    int went = wentOn(timesErrs, lowHigh, t, e);
                    if (went >= 0) {
                        due(y.left(t, e), went);
                        some += went > 0 && went < many ? 1 : 0;
                    }
                }
            }
            holds(some > 30);
        });
        S.test(21, "Of looks at t, t + step, .. (n of them, 1 to 20; step 1 to 100000) with ERR e that by which fewest WAYS are "
                + "LEFT, but one at least; of several the earliest: its time. NONE", x -> {
            int[] seen = new int[2];
            for (int i = 0; i < 250; i++) {
                SkyClocks y = new SkyClocks();
                int[][] timesErrs = someTimes(row);
                tell(y, 0, timesErrs);
                y.ways(0, 100000, row.from(100000, 150000));
                for (int j = 0; j < 5; j++) {
                    int t = timesErrs[timesErrs.length - 1][0] + row.below(500);
                    int step = row.from(1, 60);
                    int n = row.from(1, 20);
                    int e = row.below(15);
                    int want = bestByLeft(y, new int[] {t, step, n, e});
                    due(y.look(t, step, n, e), want);
                    seen[want == NONE ? 0 : 1]++;
                }
            }
            holds(seen[0] > 100 && seen[1] > 100);
        });
    }

    private static int bestByLeft(SkyClocks x, int[] look) {
        int best = NONE;
        int fewest = Integer.MAX_VALUE;
        for (int i = 0; i < look[2]; i++) {
            int left = x.left(look[0] + i * look[1], look[3]);
            if (left > 0 && left < fewest) {
                fewest = left;
                best = look[0] + i * look[1];
            }
        }
        return best;
    }

    // ---- slips, hums

    /** G(k), each above its own k (n - k). */
    private static BigInteger above(int[] r, int k) {
        long first = 0;
        long all = 0;
        for (int i = 0; i < r.length; i++) {
            first += i < k ? r[i] : 0;
            all += r[i];
        }
        return big(r.length * first - k * all).pow(2);
    }

    private static int greatestG(int[] r) {
        int n = r.length;
        int best = 2;
        for (int k = 3; k <= n - 2; k++) {
            BigInteger here = above(r, k).multiply(big((long) best * (n - best)));
            if (here.compareTo(above(r, best).multiply(big((long) k * (n - k)))) > 0) {
                best = k;
            }
        }
        return best;
    }

    private static void slips() {
        Numbers row = new Numbers(22);
        S.test(22, "SLIP of the RESIDUES r of a STAR by its MODEL, n of them (4 to 24): with G(k) = the square of (n times the sum of "
                + "the first k less k times the sum of all) by k (n - k): the k of 2 to n - 2 of greatest G, of several the least.", x -> {
            for (int i = 0; i < 1000; i++) {
                int[] r = new int[row.from(4, 24)];
                int size = new int[] {1, 3, 30, 480}[row.below(4)];
                for (int k = 0; k < r.length; k++) {
                    r[k] = row.from(-size, size);
                }
                due(Sky.withResidues(r).slip(0), greatestG(r));
            }
        });
    }

    /** All orders of a row, by changing places from i on: how many have a sum of products that is goal at least. */
    private static int ordersFrom(long[] fixed, long[] turned, int i, long goal) {
        if (i == turned.length) {
            long sum = 0;
            for (int k = 0; k < fixed.length; k++) {
                sum += fixed[k] * turned[k];
            }
            return sum >= goal ? 1 : 0;
        }
        int many = 0;
        for (int j = i; j < turned.length; j++) {
            long[] next = turned.clone();
            next[i] = turned[j];
            next[j] = turned[i];
            many += ordersFrom(fixed, next, i + 1, goal);
        }
        return many;
    }

    private static long[] residues(SkyClocks x, int star, int many) {
        long[] all = new long[many];
        for (int k = 0; k < many; k++) {
            all[k] = x.residue(star, k);
        }
        return all;
    }

    private static void hums() {
        Numbers row = new Numbers(24);
        String words = "with the first L RESIDUES of each (L 7 at most, and as many as both have; 2 at least) the sum of products; "
                + "SHUFFLED: of all orders of the second's L how many have a sum as great at least.";
        S.test(24, "HUM of two STARS: with the first L RESIDUES of each (L 7 at most, and as many as both have; 2 at least) the sum of products; "
                + "SHUFFLED: of all orders of the second's L how many have a sum as great at least.", x -> humsAre(row, 40));
        S.test(24, "HUM: the sum of products. BAD (a is b, too)", x -> humsAre(row, 20));
        S.test(25, words, x -> humsAre(row, 20));
    }

    private static void humsAre(Numbers row, int many) {
        for (int i = 0; i < many; i++) {
            SkyClocks x = new SkyClocks();
            for (int s = 0; s < 2; s++) {
                int[] r = new int[row.from(1, 9)];
                for (int k = 0; k < r.length; k++) {
                    r[k] = row.from(-4, 9) * (i % 3 == 0 ? 50 : 1);
                }
                Sky.residues(x, s, r);
            }
            int n = Math.min(7, Math.min(x.many(0), x.many(1)));
            long[] a = residues(x, 0, n);
            long[] b = residues(x, 1, n);
            long sum = 0;
            for (int k = 0; k < n; k++) {
                sum += a[k] * b[k];
            }
            due(x.hum(0, 1), n < 2 ? Sky.NO_LONG : sum);
            due(x.hum(1, 0), n < 2 ? Sky.NO_LONG : sum);
            due(x.hum(1, 1), Sky.BAD_LONG);
            due(x.shuffled(0, 1), n < 2 ? NO : ordersFrom(a, b, 0, sum));
            due(x.shuffled(1, 0), n < 2 ? NO : ordersFrom(b, a, 0, sum));
        }
    }

    /** Tables, MODELS of the first STARS, and ARRIVALS about their turns. */
    private static SkyClocks crowd(Numbers row, int models, int arrivals) {
        SkyClocks x = new SkyClocks();
        for (int i = 0; i < 3; i++) {
            x.offset(i, row.from(-400, 400));
        }
        for (int bin = 0; bin < 11; bin++) {
            x.shift(0, bin, row.from(-300, 300));
            x.shift(1, bin, row.from(-300, 300));
        }
        x.rule(0, row.below(2));
        for (int s = 0; s < models; s++) {
            Sky.model(x, s, "p" + row.from(900000, 1100000) + ";z" + row.below(500) + ";c6," + row.from(-50000, 50000) + ",0,0,9;");
        }
        for (int i = 0; i < arrivals; i++) {
            x.arrival(row.below(4), row.below(3) == 0 ? row.below(1000001) : row.below(6000), row.below(200), row.below(3),
                    row.below(row.below(3) == 0 ? 4 : 2000001));
        }
        x.rule(1, row.below(3) == 0 ? row.from(1000000, 2000000) : 2000000);
        return x;
    }

    /** BETWEEN by what at() and turn() tell. */
    private static long slowBetween(SkyClocks x, int i, int j) {
        List<Integer> gaps = new ArrayList<>();
        for (int s = 0; s < 4; s++) {
            int n = x.many(s);
            int[] instruments = new int[n];
            int[] turns = new int[n];
            int[] times = new int[n];
            for (int k = 0; k < n; k++) {
                instruments[k] = x.at(s, k, 2);
                turns[k] = x.turn(s, k);
                times[k] = x.at(s, k, 0);
            }
            for (int k = 0; k < n * n; k++) {
                if (instruments[k / n] == i && instruments[k % n] == j && turns[k / n] == turns[k % n] && turns[k / n] >= 0) {
                    gaps.add(times[k / n] - times[k % n]);
                }
            }
        }
        gaps.sort(null);
        return gaps.isEmpty() ? Sky.NO_BETWEEN : gaps.get((gaps.size() - 1) / 2);
    }

    private static void gaps() {
        Numbers row = new Numbers(26);
        S.test(26, "BETWEEN two INSTRUMENTS i, j: over all STARS with a MODEL and pairs of ARRIVALS, one by i, one by j, that have one "
                + "TURN: AT by i less AT by j: the middle of these in order (of an even number the lesser).", x -> {
            int some = 0;
            for (int n = 0; n < 120; n++) {
                SkyClocks y = crowd(row, n % 5, 8 + n / 2);
                int i = row.below(3);
                int j = (i + 1 + row.below(2)) % 3;
                long want = slowBetween(y, i, j);
                due(y.between(i, j), want);
                some += want != Sky.NO_BETWEEN ? 1 : 0;
            }
            holds(some > 40);
        });
        S.test(27, "BETWEEN i, j and j, k less that of i, k: how a LOOP closes. BAD (two alike) -10000000; NO -10000002.", x -> {
            int some = 0;
            for (int n = 0; n < 60; n++) {
                SkyClocks y = crowd(row, 1 + n % 4, 60);
                for (int i = 0; i < 27; i++) {
                    int[] ijk = {i / 9, i / 3 % 3, i % 3};
                    boolean alike = ijk[0] == ijk[1] || ijk[1] == ijk[2] || ijk[0] == ijk[2];
                    long a = y.between(ijk[0], ijk[1]);
                    long b = y.between(ijk[1], ijk[2]);
                    long c = y.between(ijk[0], ijk[2]);
                    boolean none = a == -10000002 || b == -10000002 || c == -10000002;
                    due(y.loop(ijk[0], ijk[1], ijk[2]), alike ? -10000000 : none ? -10000002 : a + b - c);
                    some += !alike && !none ? 1 : 0;
                }
            }
            holds(some > 60);
        });
    }

    private static void movedAndAlarms() {
        Numbers row = new Numbers(28);
        S.test(28, "MOVED is a STAR by VERSIONS: the sum of sizes of (RESIDUE by VERSION 1 less that by 0).", x -> {
            for (int n = 0; n < 60; n++) {
                SkyClocks y = crowd(row, 4, 40);
                for (int s = 0; s < 4; s++) {
                    y.rule(0, 0);
                    long[] by0 = residues(y, s, y.many(s));
                    y.rule(0, 1);
                    long[] by1 = residues(y, s, y.many(s));
                    long sum = 0;
                    for (int k = 0; k < by0.length; k++) {
                        sum += Math.abs(by1[k] - by0[k]);
                    }
                    due(y.moved(s), sum);
                    y.rule(0, 0);
                    due(y.moved(s), sum);
                }
            }
        });
        S.test(29, "ALARM of a STAR: in order of KNOWN (of like ones in their order) the first ARRIVAL whose RESIDUE has a size above "
                + "three times its ERR.", x -> {
            int[] seen = new int[2];
            for (int n = 0; n < 100; n++) {
                SkyClocks y = crowd(row, 4, n % 40);
                for (int s = 0; s < 4; s++) {
                    int want = slowAlarm(y, s);
                    due(y.alarm(s), want);
                    seen[want > 0 ? 1 : 0]++;
                }
            }
            holds(seen[1] > 60);
        });
    }

    /** The one of least KNOWN, of like ones the first, of those that are loud. */
    private static int slowAlarm(SkyClocks x, int s) {
        int best = NONE;
        for (int k = x.many(s) - 1; k >= 0; k--) {
            boolean loud = Math.abs(x.residue(s, k)) > 3 * x.at(s, k, 1);
            if (loud && (best == NONE || x.at(s, k, 3) <= x.at(s, best, 3))) {
                best = k;
            }
        }
        return best;
    }

    private static void counts() {
        Numbers row = new Numbers(30);
        S.test(30, "How many: 0 ARRIVALS of all that count, 1 MODELS, 2 bytes of THE TEXT, 3 WAYS of the latest ways() (SPENT: 0). BAD.", x -> {
            for (int n = 0; n < 60; n++) {
                SkyClocks y = crowd(row, n % 5, n);
                due(y.count(0), y.many(0) + y.many(1) + y.many(2) + y.many(3));
                due(y.count(1), n % 5);
                int ways = 0;
                for (int s = 0; s < 4; s++) {
                    int answer = y.ways(s, 100000, row.from(100000, 3000000));
                    ways = answer >= 0 ? answer : answer == -5 ? 0 : ways;
                    due(y.count(3), ways);
                }
                y.write(3, 0);
                int bytes = y.count(2);
                due(y.wipe(), bytes);
                due(y.count(2), 0);
                due(y.count(4), -1);
            }
        });
    }

    // ---- of all calls

    /** What is asked of the ARRIVALS that count, by all calls that tell of them. */
    private static List<Long> seen(SkyClocks x) {
        List<Long> all = new ArrayList<>();
        for (int s = 0; s < 4; s++) {
            int n = x.many(s);
            all.add((long) n);
            for (int k = 0; k <= n && k < 24; k++) {
                for (int what = 0; what < 5; what++) {
                    all.add((long) x.at(s, k, what));
                }
                all.add((long) x.residue(s, k));
                all.add((long) x.turn(s, k));
            }
            all.add((long) x.ways(s, 990000, 1010000));
            all.add((long) x.count(3));
            all.add((long) x.way(0, 2));
            all.add((long) x.sure(2));
            all.add(x.fit(0, s));
            all.add((long) x.left(1500000, 900));
            all.add((long) x.look(1400000, 450, 20, 9));
            all.add((long) x.slip(s));
            all.add((long) x.falseShare(s));
            all.add(x.moved(s));
            all.add((long) x.alarm(s));
            all.add((long) x.count(0));
            for (int t = 0; t < 4; t++) {
                all.add(x.hum(s, t));
                all.add((long) x.shuffled(s, t));
                all.add((long) x.between(s, t));
                all.add((long) x.loop(s, t, 3 - s - t));
            }
        }
        return all;
    }

    private static void thoseThatCount() {
        Numbers row = new Numbers(6);
        S.test(6, "ARRIVALS count that are KNOWN by then; all below is of those, told from 0 on in their order.", x -> {
            for (int n = 0; n < 40; n++) {
                int asOf = row.below(2000000);
                SkyClocks with = new SkyClocks();
                SkyClocks without = new SkyClocks();
                for (SkyClocks y : new SkyClocks[] {with, without}) {
                    for (int s = 0; s < 3; s++) {
                        Sky.model(y, s, "p1000000;c4,9,-9,9,0;");
                    }
                    y.rule(1, n % 2 == 0 ? asOf : 2000000);
                }
                for (int i = 0; i < 36; i++) {
                    int at = 1000 * row.below(12) + row.below(9);
                    int known = i % 2 == 0 ? row.from(0, asOf) : row.from(asOf + 1, 2000000);
                    int err = row.below(4);
                    with.arrival(i % 4 / 2 * 2 + i / 18, at, err, i % 3, known);
                    if (known <= asOf) {
                        without.arrival(i % 4 / 2 * 2 + i / 18, at, err, i % 3, known);
                    }
                }
                with.rule(1, asOf);
                due(without.rule(1, 2000000), n % 2 == 0 ? asOf : 2000000);
                List<Long> got = seen(with);
                List<Long> want = seen(without);
                due(got.size(), want.size());
                for (int i = 0; i < Math.min(got.size(), want.size()); i++) {
                    due(got.get(i), want.get(i));
                }
            }
        });
    }

    /** All calls that may lack an ARRIVAL, a MODEL, or enough of them. */
    private static long[] lacking(SkyClocks x) {
        return new long[] {x.at(0, 0, 0) == Sky.NO_AT ? NO : 0, x.residue(0, 0) == Sky.NO_RESIDUE ? NO : 0, x.turn(0, 0),
            x.ways(0, 100000, 100000000), x.way(0, 0), x.sure(0), x.fit(0, 0) == Sky.NO_LONG ? NO : 0, x.left(2000000, 0),
            x.look(2000000, 1, 1, 0), x.comes(0, 0), x.slip(0), x.falseShare(0), x.hum(0, 1) == Sky.NO_LONG ? NO : 0, x.shuffled(0, 1),
            x.between(0, 1) == Sky.NO_BETWEEN ? NO : 0, x.loop(0, 1, 2) == Sky.NO_BETWEEN ? NO : 0, x.moved(0), x.alarm(0), x.model(0)};
    }

    /** Of these calls just the ones at those places are not refused. */
    private static void refusedBut(SkyClocks x, Integer... places) {
        long[] answers = lacking(x);
        for (int i = 0; i < answers.length; i++) {
            due(answers[i] == NO ? 0 : 1, Arrays.asList(places).contains(i) ? 1 : 0);
        }
    }

    private static void notAsThingsStand() {
        S.test(7, "NO: not as things stand: no such ARRIVAL, no MODEL, too few, too many of them. FULL.", x -> {
            refusedBut(x);
            // a MODEL of each STAR and no ARRIVAL
            for (int s = 0; s < 4; s++) {
                Sky.model(x, s, "p1000000;");
            }
            refusedBut(x, 9, 16, 17, 18);
            // one ARRIVAL of each STAR
            for (int s = 0; s < 4; s++) {
                x.arrival(s, 1000, 0, 0, 0);
            }
            refusedBut(x, 0, 1, 2, 9, 16, 17, 18);
            // two, by INSTRUMENTS of their own, of one TURN
            x.arrival(0, 1000, 0, 1, 0);
            x.arrival(1, 1001, 0, 1, 0);
            refusedBut(x, 0, 1, 2, 3, 4, 5, 7, 8, 9, 12, 13, 14, 16, 17, 18);
            // four, by all INSTRUMENTS
            x.arrival(0, 1001, 0, 2, 0);
            x.arrival(0, 1002, 0, 2, 0);
            refusedBut(x, 0, 1, 2, 3, 4, 5, 7, 8, 9, 10, 11, 12, 13, 14, 15, 16, 17, 18);
            // thirteen: too many for FALSE
            for (int k = 0; k < 9; k++) {
                x.arrival(0, 4000 + 1000 * k, 0, 0, 0);
            }
            refusedBut(x, 0, 1, 2, 3, 4, 5, 7, 8, 9, 10, 12, 13, 14, 15, 16, 17, 18);
        });
        S.test(7, "NO: not as things stand: no such ARRIVAL, no MODEL, too few, too many of them. FULL.", x -> {
            // ARRIVALS of all STARS, and no MODEL
            for (int s = 0; s < 4; s++) {
                for (int k = 0; k < 9; k++) {
                    x.arrival(s, 1000 * (k / 3), 0, k % 3, 0);
                }
            }
            refusedBut(x, 0, 3, 4, 5, 7, 8);
            for (int s = 0; s < 4; s++) {
                x.clear(s);
                Sky.arrivals(x, s, 0, 1000, 2000, 3000, 4000);
            }
            x.ways(0, 1000000, 1000000);
            due(x.way(0, 3), 3);
            due(x.fit(0, 2), 1000);
        });
        S.test(2, "An ARRIVAL: how many the STAR has. BAD; FULL.", x -> {
            for (int i = 1; i <= 30; i++) {
                due(x.arrival(i % 2, 5, 0, 0, 0), (i + 1) / 2);
                due(x.arrival(2, 5, 0, 0, 0), i > 24 ? -3 : i);
                due(x.arrival(2, -1, 0, 0, 0), -1);
                due(x.arrival(4, 5, 0, 0, 0), -1);
            }
            due(x.many(2), 24);
            due(x.clear(2), 24);
            due(x.arrival(2, 5, 0, 0, 0), 1);
        });
    }

    public static void main(String[] args) {
        itemsInAnyOrder();
        turns();
        nearestTurns();
        allWays();
        latestWays();
        fits();
        looks();
        slips();
        hums();
        gaps();
        movedAndAlarms();
        counts();
        thoseThatCount();
        notAsThingsStand();
        S.end();
    }
}
