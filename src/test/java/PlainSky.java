import java.math.BigInteger;
import java.nio.charset.StandardCharsets;
import java.util.ArrayList;
import java.util.Collections;
import java.util.List;
import java.util.regex.Matcher;
import java.util.regex.Pattern;

/** The document once more, in the plainest and slowest form: what SkyClocks is compared with. */
final class PlainSky {
    static final int BAD = -1, NO = -2, FULL = -3, NONE = -4, SPENT = -5;
    static final long BAD_LONG = -1000000000000000000L, NO_LONG = -1000000000000000002L;

    private static final class Arrival {
        int at, err, instrument, known;
    }

    private static final class Spin {
        long period, zero, drift;
        int items, fault = NONE;
        final List<long[]> slips = new ArrayList<>();
        final List<long[]> companions = new ArrayList<>();
        final List<Long> comes = new ArrayList<>();
    }

    private final List<List<Arrival>> told = new ArrayList<>();
    private final Spin[] models = new Spin[4];
    private final int[] offsets = new int[3];
    private final int[][] shifts = new int[2][11];
    private int version = 0, asOf = 2000000;
    private String text = "";
    private List<long[]> latest = null;
    private boolean spent = false;
    private long[] thenTimes = new long[0], thenErrs = new long[0];
    private long thenLow, thenHigh;
    int tried = 0;

    PlainSky() {
        for (int i = 0; i < 4; i++) {
            told.add(new ArrayList<>());
        }
    }

    private static boolean out(long v, long low, long high) {
        return v < low || v > high;
    }

    // ---- arrivals

    int arrival(int star, int at, int err, int instrument, int known) {
        if (out(star, 0, 3) || out(at, 0, 1000000) || out(err, 0, 1000) || out(instrument, 0, 2) || out(known, 0, 2000000)) return BAD;
        if (told.get(star).size() == 24) return FULL;
        Arrival a = new Arrival();
        a.at = at;
        a.err = err;
        a.instrument = instrument;
        a.known = known;
        told.get(star).add(a);
        told.get(star).sort((p, q) -> Integer.compare(p.at, q.at));
        return told.get(star).size();
    }

    int clear(int star) {
        if (out(star, 0, 3)) return BAD;
        int was = told.get(star).size();
        told.get(star).clear();
        return was;
    }

    int offset(int instrument, int v) {
        if (out(instrument, 0, 2) || out(v, -1000, 1000)) return -100000;
        int was = offsets[instrument];
        offsets[instrument] = v;
        return was;
    }

    int shift(int ver, int bin, int v) {
        if (out(ver, 0, 1) || out(bin, 0, 10) || out(v, -500, 500)) return -100000;
        int was = shifts[ver][bin];
        shifts[ver][bin] = v;
        return was;
    }

    int rule(int what, int v) {
        if (out(what, 0, 1) || out(v, 0, what == 0 ? 1 : 2000000)) return BAD;
        int was = what == 0 ? version : asOf;
        if (what == 0) version = v; else asOf = v;
        return was;
    }

    private List<Arrival> counting(int star) {
        List<Arrival> all = new ArrayList<>();
        for (Arrival a : told.get(star)) if (a.known <= asOf) all.add(a);
        return all;
    }

    private long corrected(Arrival a, int ver) {
        return a.at - offsets[a.instrument] + shifts[ver][a.at / 100000];
    }

    int at(int star, int k, int what) {
        if (out(star, 0, 3) || out(k, 0, 23) || out(what, 0, 4)) return -100000;
        if (k >= counting(star).size()) return -100002;
        Arrival a = counting(star).get(k);
        int[] all = {a.at, a.err, a.instrument, a.known, (int) corrected(a, version)};
        return all[what];
    }

    int many(int star) {
        return out(star, 0, 3) ? BAD : counting(star).size();
    }

    // ---- texts, models

    int write(int n, long v) {
        if (out(n, 1, 8)) return BAD;
        if (text.length() + n > 200) return FULL;
        byte[] bytes = BigInteger.valueOf(v).toByteArray();
        byte[] wide = new byte[n];
        for (int i = 0; i < n; i++) {
            int from = bytes.length - 1 - i;
            wide[n - 1 - i] = from >= 0 ? bytes[from] : (byte) (v < 0 ? -1 : 0);
        }
        text += new String(wide, StandardCharsets.ISO_8859_1);
        return text.length();
    }

    int wipe() {
        int was = text.length();
        text = "";
        return was;
    }

    private static final String N = "(-?[0-9]{1,9})";
    private static final Pattern P = Pattern.compile("p" + N), Z = Pattern.compile("z" + N), D = Pattern.compile("d" + N);
    private static final Pattern S = Pattern.compile("s" + N + "," + N);
    private static final Pattern C = Pattern.compile("c" + N + "," + N + "," + N + "," + N + "," + N);

    private static long[] numbers(Pattern form, String item) {
        Matcher m = form.matcher(item);
        if (!m.matches()) return null;
        long[] all = new long[m.groupCount()];
        for (int i = 0; i < all.length; i++) all[i] = Long.parseLong(m.group(i + 1));
        return all;
    }

    private Spin read() {
        Spin spin = new Spin();
        int from = 0;
        boolean z = false, d = false;
        while (from < text.length() || from == 0) {
            int end = text.indexOf(';', from);
            String item = end < 0 ? "" : text.substring(from, end);
            boolean good = false;
            long[] v;
            if (spin.items == 0) {
                v = numbers(P, item);
                good = v != null && !out(v[0], 100000, 100000000);
                if (good) spin.period = v[0];
            } else if ((v = numbers(Z, item)) != null) {
                good = !z && !out(v[0], 0, 1000000);
                z = true;
                spin.zero = v[0];
            } else if ((v = numbers(D, item)) != null) {
                good = !d && !out(v[0], -100000, 100000);
                d = true;
                spin.drift = v[0];
            } else if ((v = numbers(S, item)) != null) {
                spin.slips.add(v);
                good = spin.slips.size() <= 3 && !out(v[0], 0, 1000000) && !out(v[1], -50000, 50000);
            } else if ((v = numbers(C, item)) != null) {
                spin.companions.add(v);
                good = spin.companions.size() <= 2 && !out(v[0], 4, 1000);
                for (int i = 1; i < 5; i++) good = good && !out(v[i], -50000, 50000);
            }
            if (!good) {
                spin.fault = from;
                return spin;
            }
            spin.items++;
            from = end + 1;
        }
        return spin;
    }

    int fault() {
        return read().fault;
    }

    private static void turnAll(Spin spin) {
        long begin = spin.zero * 1000000;
        for (int n = 0; n <= 10000 && begin <= 2000000L * 1000000; n++) {
            long late = 0;
            for (long[] c : spin.companions) late += 1000 * c[1 + (int) (4 * (n % c[0]) / c[0])];
            spin.comes.add(begin + late);
            long behind = spin.period * 1000 + n * spin.drift;
            for (long[] s : spin.slips) if (s[0] * 1000000 <= begin) behind += 1000 * s[1];
            begin += behind < 1000000 ? 1000000 : behind;
        }
    }

    int model(int star) {
        if (out(star, 0, 3)) return BAD;
        Spin spin = read();
        if (spin.fault != NONE) return NO;
        turnAll(spin);
        models[star] = spin;
        return spin.items;
    }

    long comes(int star, int n) {
        if (out(star, 0, 3) || out(n, 0, 10000)) return -1;
        if (models[star] == null || n >= models[star].comes.size()) return -2;
        return models[star].comes.get(n);
    }

    private int nearest(int star, long time) {
        List<Long> comes = models[star].comes;
        int best = 0;
        for (int n = 1; n < comes.size(); n++) {
            if (Math.abs(comes.get(n) - time) < Math.abs(comes.get(best) - time)) best = n;
        }
        return best;
    }

    private int turnOf(int star, Arrival a, int ver) {
        return nearest(star, corrected(a, ver) * 1000000);
    }

    private long residueOf(int star, Arrival a, int ver) {
        long off = corrected(a, ver) * 1000000 - models[star].comes.get(turnOf(star, a, ver));
        return off < 0 ? -(-off / 1000000) : off / 1000000;
    }

    int residue(int star, int k) {
        if (out(star, 0, 3) || out(k, 0, 23)) return -1000000000;
        if (models[star] == null || k >= counting(star).size()) return -1000000002;
        return (int) residueOf(star, counting(star).get(k), version);
    }

    int turn(int star, int k) {
        if (out(star, 0, 3) || out(k, 0, 23)) return BAD;
        if (models[star] == null || k >= counting(star).size()) return NO;
        return turnOf(star, counting(star).get(k), version);
    }

    // ---- ways

    /** Whether some PERIOD from low to high allows the first n counts, and at last a look at t by e. */
    private boolean allowed(long[] counts, int n, long[] times, long[] errs) {
        long lowA = thenLow, lowB = 1, highA = thenHigh, highB = 1;
        for (int k = 1; k < n; k++) {
            long low = 1000 * (times[k] - times[0] - errs[k] - errs[0]);
            long high = 1000 * (times[k] - times[0] + errs[k] + errs[0]);
            if (low * lowB > lowA * counts[k]) {
                lowA = low;
                lowB = counts[k];
            }
            if (high * highB < highA * counts[k]) {
                highA = high;
                highB = counts[k];
            }
        }
        return lowA * highB <= highA * lowB;
    }

    /** No count is below what the greatest PERIOD makes of the time, .. */
    private long least(long time, long err) {
        return Math.max(0, 1000 * (time - thenTimes[0] - err - thenErrs[0]) / thenHigh);
    }

    /** .. nor above what the least makes of it. */
    private long most(long time, long err) {
        return 1000 * (time - thenTimes[0] + err + thenErrs[0]) / thenLow;
    }

    private void carry(long[] counts, int k) {
        if (k == thenTimes.length) {
            latest.add(counts.clone());
            spent = spent || latest.size() > 500;
            return;
        }
        long most = most(thenTimes[k], thenErrs[k]);
        boolean before = false;
        for (long c = Math.max(counts[k - 1] + 1, least(thenTimes[k], thenErrs[k])); c <= most && !spent; c++) {
            counts[k] = c;
            boolean good = allowed(counts, k + 1, thenTimes, thenErrs);
            // the counts that go with a row are one behind the other: behind the last of them there are none
            if (before && !good) return;
            before = good;
            if (good) {
                tried++;
                spent = spent || tried > 20000;
                carry(counts, k + 1);
            }
        }
    }

    int ways(int star, int low, int high) {
        if (out(star, 0, 3) || out(low, 100000, 100000000) || out(high, 100000, 100000000) || low > high) return BAD;
        List<Arrival> all = counting(star);
        if (all.size() < 2) return NO;
        thenTimes = new long[all.size()];
        thenErrs = new long[all.size()];
        for (int k = 0; k < all.size(); k++) {
            thenTimes[k] = corrected(all.get(k), version);
            thenErrs[k] = all.get(k).err;
        }
        thenLow = low;
        thenHigh = high;
        latest = new ArrayList<>();
        spent = false;
        tried = 0;
        carry(new long[all.size()], 1);
        if (spent) latest.clear();
        return spent ? SPENT : latest.size();
    }

    int way(int i, int k) {
        if (i < 0 || out(k, 0, 23)) return BAD;
        if (latest == null || spent || k >= thenTimes.length) return NO;
        return i >= latest.size() ? NONE : (int) latest.get(i)[k];
    }

    int sure(int k) {
        if (out(k, 0, 23)) return BAD;
        if (latest == null || spent || k >= thenTimes.length) return NO;
        if (latest.isEmpty()) return NONE;
        for (long[] row : latest) if (row[k] != latest.get(0)[k]) return NONE;
        return (int) latest.get(0)[k];
    }

    private static BigInteger big(long v) {
        return BigInteger.valueOf(v);
    }

    long fit(int i, int what) {
        if (i < 0 || out(what, 0, 4)) return BAD_LONG;
        if (latest == null || spent || i >= latest.size()) return NO_LONG;
        long[] row = latest.get(i);
        int n = row.length;
        // about the middles: y = sum of (n c - C)(n t - T) by sum of (n c - C) squared, x = (T - y C) by n
        BigInteger sumC = BigInteger.ZERO, sumT = BigInteger.ZERO, up = BigInteger.ZERO, down = BigInteger.ZERO;
        for (int k = 0; k < n; k++) {
            sumC = sumC.add(big(row[k]));
            sumT = sumT.add(big(thenTimes[k]));
        }
        for (int k = 0; k < n; k++) {
            BigInteger c = big(n * row[k]).subtract(sumC);
            up = up.add(c.multiply(big(n * thenTimes[k]).subtract(sumT)));
            down = down.add(c.multiply(c));
        }
        BigInteger xUp = sumT.multiply(down).subtract(up.multiply(sumC)), xDown = down.multiply(big(n));
        BigInteger xGcd = xUp.gcd(xDown), yGcd = up.gcd(down);
        if (what == 0) return xUp.divide(xGcd).longValueExact();
        if (what == 1) return xDown.divide(xGcd).longValueExact();
        if (what == 2) return up.divide(yGcd).longValueExact();
        if (what == 3) return down.divide(yGcd).longValueExact();
        int outside = 0;
        for (int k = 0; k < n; k++) {
            BigInteger miss = big(thenTimes[k]).multiply(xDown).subtract(xUp).subtract(up.multiply(big(n * row[k])));
            if (miss.abs().compareTo(big(thenErrs[k]).multiply(xDown)) > 0) outside++;
        }
        return outside;
    }

    private int goOn(int t, int e) {
        int n = thenTimes.length, sum = 0;
        long[] times = java.util.Arrays.copyOf(thenTimes, n + 1), errs = java.util.Arrays.copyOf(thenErrs, n + 1);
        times[n] = t;
        errs[n] = e;
        for (long[] row : latest) {
            long[] longer = java.util.Arrays.copyOf(row, n + 1);
            boolean some = false;
            for (long c = Math.max(row[n - 1] + 1, least(t, e)); c <= most(t, e) && !some; c++) {
                longer[n] = c;
                some = allowed(longer, n + 1, times, errs);
            }
            if (some) sum++;
        }
        return sum;
    }

    int left(int t, int e) {
        if (out(t, 0, 2000000) || out(e, 0, 1000)) return BAD;
        if (latest == null || spent || t < thenTimes[thenTimes.length - 1]) return NO;
        return goOn(t, e);
    }

    int look(int t, int step, int n, int e) {
        if (out(t, 0, 2000000) || out(step, 1, 100000) || out(n, 1, 20) || out(e, 0, 1000)) return BAD;
        if (t + (n - 1) * step > 2000000) return BAD;
        if (latest == null || spent || t < thenTimes[thenTimes.length - 1]) return NO;
        int best = NONE, fewest = Integer.MAX_VALUE;
        for (int i = 0; i < n; i++) {
            int some = goOn(t + i * step, e);
            if (some >= 1 && some < fewest) {
                fewest = some;
                best = t + i * step;
            }
        }
        return best;
    }

    // ---- slips, hums

    private List<Long> residues(int star) {
        List<Long> all = new ArrayList<>();
        if (models[star] == null) return all;
        for (Arrival a : counting(star)) all.add(residueOf(star, a, version));
        return all;
    }

    private static BigInteger[] g(List<Long> row, int k) {
        int n = row.size();
        long first = 0, all = 0;
        for (int i = 0; i < n; i++) {
            all += row.get(i);
            if (i < k) first += row.get(i);
        }
        return new BigInteger[] {big(n * first - k * all).pow(2), big((long) k * (n - k))};
    }

    private static int compare(BigInteger[] a, BigInteger[] b) {
        return a[0].multiply(b[1]).compareTo(b[0].multiply(a[1]));
    }

    private static int greatest(List<Long> row) {
        int best = 2;
        for (int k = 2; k <= row.size() - 2; k++) {
            if (compare(g(row, k), g(row, best)) > 0) best = k;
        }
        return best;
    }

    int slip(int star) {
        if (out(star, 0, 3)) return BAD;
        List<Long> row = residues(star);
        return row.size() < 4 ? NO : greatest(row);
    }

    int falseShare(int star) {
        if (out(star, 0, 3)) return BAD;
        List<Long> row = residues(star);
        if (out(row.size(), 4, 12)) return NO;
        BigInteger[] goal = g(row, greatest(row));
        int sum = 0;
        for (int signs = 0; signs < 1 << row.size(); signs++) {
            List<Long> turned = new ArrayList<>();
            for (int i = 0; i < row.size(); i++) turned.add((signs >> i & 1) == 0 ? row.get(i) : -row.get(i));
            if (compare(g(turned, greatest(turned)), goal) >= 0) sum++;
        }
        return sum;
    }

    private static long products(List<Long> p, List<Long> q, int n) {
        long sum = 0;
        for (int i = 0; i < n; i++) sum += p.get(i) * q.get(i);
        return sum;
    }

    private int length(int a, int b) {
        return Math.min(7, Math.min(residues(a).size(), residues(b).size()));
    }

    long hum(int a, int b) {
        if (out(a, 0, 3) || out(b, 0, 3) || a == b) return BAD_LONG;
        int n = length(a, b);
        return n < 2 ? NO_LONG : products(residues(a), residues(b), n);
    }

    private static int orders(List<Long> p, List<Long> q, int i, long goal) {
        if (i == q.size()) return products(p, q, q.size()) >= goal ? 1 : 0;
        int sum = 0;
        for (int j = i; j < q.size(); j++) {
            Collections.swap(q, i, j);
            sum += orders(p, q, i + 1, goal);
            Collections.swap(q, i, j);
        }
        return sum;
    }

    int shuffled(int a, int b) {
        if (out(a, 0, 3) || out(b, 0, 3) || a == b) return BAD;
        int n = length(a, b);
        if (n < 2) return NO;
        List<Long> p = residues(a), q = new ArrayList<>(residues(b).subList(0, n));
        return orders(p, q, 0, products(p, q, n));
    }

    private Integer middle(int i, int j) {
        List<Integer> all = new ArrayList<>();
        for (int s = 0; s < 4; s++) {
            if (models[s] == null) continue;
            for (Arrival a : counting(s)) {
                for (Arrival b : counting(s)) {
                    if (a.instrument == i && b.instrument == j && turnOf(s, a, version) == turnOf(s, b, version)) {
                        all.add(a.at - b.at);
                    }
                }
            }
        }
        Collections.sort(all);
        return all.isEmpty() ? null : all.get((all.size() + 1) / 2 - 1);
    }

    int between(int i, int j) {
        if (out(i, 0, 2) || out(j, 0, 2) || i == j) return -10000000;
        Integer m = middle(i, j);
        return m == null ? -10000002 : m;
    }

    int loop(int i, int j, int k) {
        if (out(i, 0, 2) || out(j, 0, 2) || out(k, 0, 2) || i == j || j == k || i == k) return -10000000;
        Integer a = middle(i, j), b = middle(j, k), c = middle(i, k);
        return a == null || b == null || c == null ? -10000002 : a + b - c;
    }

    long moved(int star) {
        if (out(star, 0, 3)) return -1;
        if (models[star] == null) return -2;
        long sum = 0;
        for (Arrival a : counting(star)) sum += Math.abs(residueOf(star, a, 1) - residueOf(star, a, 0));
        return sum;
    }

    int alarm(int star) {
        if (out(star, 0, 3)) return BAD;
        if (models[star] == null) return NO;
        List<Arrival> byPlace = counting(star);
        List<Arrival> byKnown = new ArrayList<>(byPlace);
        byKnown.sort((p, q) -> Integer.compare(p.known, q.known));
        for (Arrival a : byKnown) {
            if (Math.abs(residueOf(star, a, version)) > 3L * a.err) return byPlace.indexOf(a);
        }
        return NONE;
    }

    int count(int what) {
        if (what == 0) return counting(0).size() + counting(1).size() + counting(2).size() + counting(3).size();
        if (what == 1) {
            int sum = 0;
            for (Spin m : models) if (m != null) sum++;
            return sum;
        }
        if (what == 2) return text.length();
        if (what == 3) return latest == null ? 0 : latest.size();
        return BAD;
    }
}
