/** The sentences of promises 1 to 8 that name an edge, each with a test of its own. */
public final class ArrivalSentencesTest {
    private static final int LEAST = Integer.MIN_VALUE, GREATEST = Integer.MAX_VALUE;
    private static final Sentences S = new Sentences();

    private static void due(long got, long want) {
        S.due(got, want);
    }

    private static void aNewObject() {
        S.test(1, "No ARRIVALS, MODELS; an empty TEXT.", x -> {
            for (int s = 0; s < 4; s++) {
                due(x.many(s), 0);
                due(x.at(s, 0, 0), Sky.NO_AT);
                due(x.comes(s, 0), -2);
                due(x.model(s), -2);
                due(x.clear(s), 0);
            }
            for (int what = 0; what < 4; what++) {
                due(x.count(what), 0);
            }
            due(x.fault(), 0);
            due(x.wipe(), 0);
            due(x.way(0, 0), -2);
        });
        S.test(1, "No ARRIVALS, MODELS; an empty TEXT.", x -> {
            Sky.arrivals(x, 0, 1, 1000, 2000);
            Sky.model(x, 0, "p1000000;");
            x.ways(0, 1000000, 1000000);
            SkyClocks another = new SkyClocks();
            for (int what = 0; what < 4; what++) {
                due(another.count(what), 0);
            }
        });
        S.test(1, "An object is used for at most 512 calls after it has been made", x -> {
            for (int i = 0; i < 170; i++) {
                due(x.arrival(i % 4, 1000 * (i % 5), 1, i % 3, i), i / 4 + 1 > 24 ? -3 : i / 4 + 1);
                due(x.write(8, 0), i < 25 ? 8 * (i + 1) : -3);
                due(x.ways(0, 100000, 100000000) == -1 ? 0 : 1, 1);
            }
            due(x.many(3), 24);
            due(x.wipe(), 200);
        });
        S.test(1, "BAD = -1, NO = -2, FULL = -3, NONE = -4, SPENT = -5;", x -> {
            due(SkyClocks.BAD, -1);
            due(SkyClocks.NO, -2);
            due(SkyClocks.FULL, -3);
            due(SkyClocks.NONE, -4);
            due(SkyClocks.SPENT, -5);
        });
    }

    private static void rangesOfArrival() {
        S.test(2, "STARS 0 to 3 have ARRIVALS", x -> {
            for (int s = 0; s < 4; s++) {
                due(x.arrival(s, 0, 0, 0, 0), 1);
            }
            for (int s : new int[] {LEAST, -1, 4, GREATEST}) {
                due(x.arrival(s, 0, 0, 0, 0), -1);
            }
            due(x.count(0), 4);
        });
        S.test(2, "AT (0 to 1000000)", x -> {
            due(x.arrival(0, 0, 0, 0, 0), 1);
            due(x.arrival(0, 1000000, 0, 0, 0), 2);
            for (int at : new int[] {LEAST, -1, 1000001, GREATEST}) {
                due(x.arrival(0, at, 0, 0, 0), -1);
            }
            due(x.at(0, 0, 0), 0);
            due(x.at(0, 1, 0), 1000000);
            due(x.many(0), 2);
        });
        S.test(2, "ERR (0 to 1000)", x -> {
            due(x.arrival(0, 5, 0, 0, 0), 1);
            due(x.arrival(0, 5, 1000, 0, 0), 2);
            for (int err : new int[] {LEAST, -1, 1001, GREATEST}) {
                due(x.arrival(0, 5, err, 0, 0), -1);
            }
            due(x.at(0, 0, 1), 0);
            due(x.at(0, 1, 1), 1000);
            due(x.many(0), 2);
        });
        S.test(2, "an INSTRUMENT (0 to 2)", x -> {
            for (int i = 0; i < 3; i++) {
                due(x.arrival(0, 5, 0, i, 0), i + 1);
                due(x.at(0, i, 2), i);
            }
            for (int i : new int[] {LEAST, -1, 3, GREATEST}) {
                due(x.arrival(0, 5, 0, i, 0), -1);
            }
            due(x.many(0), 3);
        });
        S.test(2, "KNOWN from a time on (0 to 2000000)", x -> {
            due(x.arrival(0, 5, 0, 0, 0), 1);
            due(x.arrival(0, 5, 0, 0, 2000000), 2);
            for (int known : new int[] {LEAST, -1, 2000001, GREATEST}) {
                due(x.arrival(0, 5, 0, 0, known), -1);
            }
            due(x.at(0, 0, 3), 0);
            due(x.at(0, 1, 3), 2000000);
            due(x.many(0), 2);
        });
    }

    private static void rowsOfArrivals() {
        S.test(2, "24 at most each", x -> {
            for (int i = 1; i <= 24; i++) {
                due(x.arrival(2, 5, 0, 0, 0), i);
            }
            due(x.arrival(2, 5, 0, 0, 0), -3);
            due(x.arrival(2, 0, 0, 0, 0), -3);
            due(x.arrival(2, 1000000, 0, 0, 0), -3);
            due(x.many(2), 24);
            due(x.at(2, 0, 0), 5);
            due(x.at(2, 23, 0), 5);
            due(x.arrival(1, 5, 0, 0, 0), 1);
            due(x.arrival(3, 5, 0, 0, 0), 1);
        });
        S.test(2, "24 at most each", x -> {
            x.rule(1, 0);
            for (int i = 1; i <= 24; i++) {
                due(x.arrival(0, i, 0, 0, 1), i);
            }
            due(x.many(0), 0);
            due(x.arrival(0, 5, 0, 0, 0), -3);
            due(x.many(0), 0);
            due(x.clear(0), 24);
            due(x.arrival(0, 5, 0, 0, 0), 1);
        });
        S.test(2, "They are in order of AT, of like ones as they were told.", x -> {
            for (int i = 0; i < 24; i++) {
                x.arrival(0, 1100 - 100 * (i / 2), i, 0, 2000000 - i);
            }
            for (int k = 0; k < 24; k++) {
                due(x.at(0, k, 0), 100 * (k / 2));
                due(x.at(0, k, 1), 22 - 2 * (k / 2) + k % 2);
            }
        });
        S.test(2, "of like ones as they were told", x -> {
            for (int i = 0; i < 8; i++) {
                x.arrival(0, i % 2 == 0 ? 1000000 : 0, i, 0, 0);
            }
            int[] errs = {1, 3, 5, 7, 0, 2, 4, 6};
            for (int k = 0; k < 8; k++) {
                due(x.at(0, k, 1), errs[k]);
            }
        });
        S.test(2, "An ARRIVAL: how many the STAR has.", x -> {
            due(x.arrival(0, 9, 0, 0, 100), 1);
            due(x.arrival(1, 9, 0, 0, 0), 1);
            due(x.arrival(0, 8, 0, 0, 0), 2);
            x.rule(1, 99);
            due(x.arrival(0, 7, 0, 0, 0), 3);
            due(x.many(0), 2);
        });
        S.test(2, "Of several the first; nothing changes then.", x -> {
            Sky.arrivals(x, 0, 0, new int[24]);
            due(x.arrival(0, 0, 0, 0, 0), -3);
            due(x.arrival(0, 1000001, 0, 0, 0), -1);
            due(x.arrival(0, 0, 1001, 0, 0), -1);
            due(x.arrival(0, 0, 0, 3, 0), -1);
            due(x.arrival(0, 0, 0, 0, 2000001), -1);
            due(x.many(0), 24);
        });
    }

    private static void clear() {
        S.test(3, "All ARRIVALS of a STAR go: how many there were.", x -> {
            due(x.clear(0), 0);
            Sky.arrivals(x, 0, 7, new int[24]);
            Sky.arrivals(x, 1, 7, 5, 6);
            due(x.clear(0), 24);
            due(x.clear(0), 0);
            due(x.many(0), 0);
            due(x.at(0, 0, 0), Sky.NO_AT);
            due(x.many(1), 2);
            due(x.arrival(0, 3, 0, 0, 0), 1);
            due(x.at(0, 0, 0), 3);
            due(x.at(0, 1, 0), Sky.NO_AT);
        });
        S.test(3, "All ARRIVALS of a STAR go: how many there were.", x -> {
            x.arrival(0, 1, 0, 0, 10);
            x.arrival(0, 2, 0, 0, 20);
            x.rule(1, 10);
            due(x.clear(0), 2);
            x.rule(1, 20);
            due(x.many(0), 0);
        });
        S.test(3, "All ARRIVALS of a STAR go: how many there were.", x -> {
            Sky.model(x, 0, "p100000;");
            Sky.arrivals(x, 0, 0, 100, 200);
            x.ways(0, 100000, 100000);
            due(x.clear(0), 2);
            due(x.comes(0, 1), 100000000);
            due(x.residue(0, 0), Sky.NO_RESIDUE);
            due(x.count(3), 1);
        });
        S.test(3, "how many there were. BAD.", x -> {
            for (int s = 0; s < 4; s++) {
                x.arrival(s, 0, 0, 0, 0);
            }
            for (int s : new int[] {LEAST, -1, 4, GREATEST}) {
                due(x.clear(s), -1);
            }
            due(x.count(0), 4);
            for (int s = 0; s < 4; s++) {
                due(x.clear(s), 1);
            }
        });
    }

    private static void offset() {
        S.test(4, "INSTRUMENTS have an OFFSET (-1000 to 1000; 0 at first).", x -> {
            for (int i = 0; i < 3; i++) {
                due(x.offset(i, 1000), 0);
                due(x.offset(i, -1000), 1000);
                for (int v : new int[] {LEAST, -1001, 1001, GREATEST}) {
                    due(x.offset(i, v), Sky.BAD_AT);
                }
                due(x.offset(i, 0), -1000);
            }
        });
        S.test(4, "an INSTRUMENT (0 to 2)", x -> {
            for (int i : new int[] {LEAST, -1, 3, GREATEST}) {
                due(x.offset(i, 5), Sky.BAD_AT);
            }
            for (int i = 0; i < 3; i++) {
                due(x.offset(i, i + 1), 0);
            }
            for (int i = 0; i < 3; i++) {
                due(x.offset(i, 0), i + 1);
            }
        });
        S.test(4, "OFFSET: what it was.", x -> {
            due(x.offset(1, 7), 0);
            due(x.offset(1, 7), 7);
            due(x.offset(1, -9), 7);
            due(x.offset(0, 3), 0);
            due(x.offset(1, 0), -9);
        });
        S.test(4, "BAD answers -100000.", x -> {
            due(x.offset(-1, 0), -100000);
            due(x.offset(0, 1001), -100000);
            due(x.offset(3, 1001), -100000);
        });
    }

    private static void shift() {
        S.test(5, "(-500 to 500; 0 at first)", x -> {
            for (int version = 0; version < 2; version++) {
                due(x.shift(version, 4, 500), 0);
                due(x.shift(version, 4, -500), 500);
                for (int v : new int[] {LEAST, -501, 501, GREATEST}) {
                    due(x.shift(version, 4, v), Sky.BAD_AT);
                }
                due(x.shift(version, 4, 0), -500);
            }
        });
        S.test(5, "VERSIONS 0, 1 have a SHIFT", x -> {
            for (int version : new int[] {LEAST, -1, 2, GREATEST}) {
                due(x.shift(version, 0, 5), Sky.BAD_AT);
            }
            due(x.shift(0, 0, 5), 0);
            due(x.shift(1, 0, 6), 0);
            due(x.shift(0, 0, 0), 5);
            due(x.shift(1, 0, 0), 6);
        });
        S.test(5, "for each of 11 BINS", x -> {
            for (int bin : new int[] {LEAST, -1, 11, GREATEST}) {
                due(x.shift(0, bin, 5), Sky.BAD_AT);
            }
            for (int bin = 0; bin < 11; bin++) {
                due(x.shift(0, bin, bin + 1), 0);
                due(x.shift(1, bin, -bin - 1), 0);
            }
            for (int bin = 0; bin < 11; bin++) {
                due(x.shift(0, bin, 0), bin + 1);
                due(x.shift(1, bin, 0), -bin - 1);
            }
        });
        S.test(5, "AT by 100000, cut.", x -> {
            for (int bin = 0; bin < 11; bin++) {
                x.shift(0, bin, bin * 10 + 1);
                x.arrival(0, bin * 100000, 0, 0, 0);
                x.arrival(0, Math.min(bin * 100000 + 99999, 1000000), 0, 0, 0);
            }
            for (int k = 0; k < 22; k++) {
                due(x.at(0, k, 4) - x.at(0, k, 0), k / 2 * 10 + 1);
            }
        });
        S.test(5, "AT by 100000, cut.", x -> {
            x.shift(0, 1, 100);
            x.shift(0, 0, -50);
            x.offset(0, 1);
            x.arrival(0, 100000, 0, 0, 0);
            x.offset(1, -1);
            x.arrival(0, 99999, 0, 1, 0);
            due(x.at(0, 0, 4), 99950);
            due(x.at(0, 1, 4), 100099);
        });
        S.test(5, "SHIFT: what it was. BAD answers -100000.", x -> {
            due(x.shift(1, 10, 5), 0);
            due(x.shift(1, 10, 5), 5);
            due(x.shift(1, 10, -6), 5);
            due(x.shift(1, 10, 501), -100000);
            due(x.shift(2, 11, 501), -100000);
            due(x.shift(1, 10, 0), -6);
        });
    }

    private static void rule() {
        S.test(6, "THE VERSION (0 at first)", x -> {
            due(x.rule(0, 0), 0);
            due(x.rule(0, 1), 0);
            for (int v : new int[] {LEAST, -1, 2, GREATEST}) {
                due(x.rule(0, v), -1);
            }
            due(x.rule(0, 0), 1);
            due(x.rule(0, 0), 0);
        });
        S.test(6, "AS OF is a time (0 to 2000000; that at first)", x -> {
            due(x.rule(1, 2000000), 2000000);
            due(x.rule(1, 0), 2000000);
            for (int v : new int[] {LEAST, -1, 2000001, GREATEST}) {
                due(x.rule(1, v), -1);
            }
            due(x.rule(1, 2000000), 0);
            due(x.rule(1, 0), 2000000);
        });
        S.test(6, "THE VERSION (what = 0), AS OF (1): what it was. BAD.", x -> {
            for (int what : new int[] {LEAST, -1, 2, GREATEST}) {
                due(x.rule(what, 0), -1);
                due(x.rule(what, 1), -1);
            }
            due(x.rule(0, 1), 0);
            due(x.rule(1, 1), 2000000);
        });
        S.test(6, "ARRIVALS count that are KNOWN by then", x -> {
            x.arrival(0, 10, 0, 0, 500);
            x.arrival(0, 20, 0, 0, 499);
            x.arrival(0, 30, 0, 0, 501);
            x.arrival(0, 40, 0, 0, 0);
            x.arrival(0, 50, 0, 0, 2000000);
            int[][] manyAsOf = {{0, 1}, {498, 1}, {499, 2}, {500, 3}, {501, 4}, {1999999, 4}, {2000000, 5}};
            for (int[] m : manyAsOf) {
                x.rule(1, m[0]);
                due(x.many(0), m[1]);
            }
        });
        S.test(6, "ARRIVALS count that are KNOWN by then", x -> {
            x.rule(1, 100);
            x.arrival(0, 10, 0, 0, 101);
            due(x.many(0), 0);
            x.arrival(0, 20, 0, 0, 100);
            due(x.many(0), 1);
            due(x.at(0, 0, 0), 20);
            x.rule(1, 101);
            due(x.at(0, 0, 0), 10);
        });
        S.test(6, "all below is of those, told from 0 on in their order", x -> {
            Sky.model(x, 0, "p1000000;");
            x.arrival(0, 1001, 0, 0, 9);
            x.arrival(0, 2002, 0, 0, 1);
            x.arrival(0, 3003, 0, 0, 9);
            x.arrival(0, 4004, 0, 0, 1);
            x.rule(1, 8);
            due(x.at(0, 0, 0), 2002);
            due(x.at(0, 1, 0), 4004);
            due(x.at(0, 2, 0), Sky.NO_AT);
            due(x.residue(0, 0), 2);
            due(x.turn(0, 1), 4);
            due(x.turn(0, 2), -2);
            due(x.ways(0, 1001000, 1001000), 1);
            due(x.way(0, 1), 2);
            due(x.alarm(0), 0);
            due(x.count(0), 2);
        });
    }

    private static void at() {
        S.test(7, "0 AT, 1 ERR, 2 INSTRUMENT, 3 KNOWN, 4 CORRECTED", x -> {
            x.arrival(0, 700001, 13, 2, 900000);
            x.offset(2, 10);
            x.shift(0, 7, 3);
            int[] values = {700001, 13, 2, 900000, 699994};
            for (int what = 0; what < 5; what++) {
                due(x.at(0, 0, what), values[what]);
            }
            for (int what : new int[] {LEAST, -1, 5, GREATEST}) {
                due(x.at(0, 0, what), Sky.BAD_AT);
            }
        });
        S.test(7, "Of ARRIVAL k that counts", x -> {
            Sky.arrivals(x, 0, 0, 1, 2, 3, 4, 5, 6, 7, 8, 9, 10, 11, 12, 13, 14, 15, 16, 17, 18, 19, 20, 21, 22, 23, 24);
            due(x.at(0, 0, 0), 1);
            due(x.at(0, 23, 0), 24);
            for (int k : new int[] {LEAST, -1, 24, GREATEST}) {
                due(x.at(0, k, 0), Sky.BAD_AT);
            }
        });
        S.test(7, "STARS 0 to 3", x -> {
            for (int s = 0; s < 4; s++) {
                x.arrival(s, 10 + s, 0, 0, 0);
                due(x.at(s, 0, 0), 10 + s);
            }
            for (int s : new int[] {LEAST, -1, 4, GREATEST}) {
                due(x.at(s, 0, 0), Sky.BAD_AT);
            }
        });
        S.test(7, "NO: not as things stand: no such ARRIVAL", x -> {
            due(x.at(0, 0, 0), -100002);
            due(x.at(0, 23, 4), -100002);
            Sky.arrivals(x, 0, 0, 1, 2);
            due(x.at(0, 1, 0), 2);
            due(x.at(0, 2, 0), -100002);
            x.arrival(0, 3, 0, 0, 2);
            due(x.at(0, 2, 0), 3);
            x.rule(1, 1);
            due(x.at(0, 2, 0), -100002);
        });
        S.test(7, "BAD -100000; NO -100002.", x -> {
            due(x.at(0, 0, 5), -100000);
            due(x.at(0, 24, 0), -100000);
            due(x.at(4, 0, 0), -100000);
            due(x.at(0, 0, 4), -100002);
        });
        S.test(7, "CORRECTED is AT less OFFSET, and SHIFT of THE VERSION (0 at first) more.", x -> {
            x.arrival(0, 0, 0, 0, 0);
            x.arrival(0, 1000000, 0, 1, 0);
            x.offset(0, 1000);
            x.shift(0, 0, -500);
            due(x.at(0, 0, 4), -1500);
            x.offset(1, -1000);
            x.shift(0, 10, 500);
            due(x.at(0, 1, 4), 1001500);
            x.rule(0, 1);
            due(x.at(0, 0, 4), -1000);
            due(x.at(0, 1, 4), 1001000);
            x.shift(1, 0, 500);
            x.shift(1, 10, -500);
            due(x.at(0, 0, 4), -500);
            due(x.at(0, 1, 4), 1000500);
            x.rule(0, 0);
            due(x.at(0, 0, 4), -1500);
        });
    }

    private static void many() {
        S.test(8, "How many ARRIVALS of a STAR count.", x -> {
            due(x.many(1), 0);
            x.rule(1, 5);
            for (int i = 0; i < 24; i++) {
                x.arrival(1, i, 0, 0, i % 2 == 0 ? 5 : 6);
            }
            due(x.many(1), 12);
            due(x.many(0), 0);
            x.rule(1, 6);
            due(x.many(1), 24);
            x.rule(1, 4);
            due(x.many(1), 0);
        });
        S.test(8, "How many ARRIVALS of a STAR count. BAD.", x -> {
            for (int s = 0; s < 4; s++) {
                for (int i = 0; i <= s; i++) {
                    x.arrival(s, i, 0, 0, 0);
                }
            }
            for (int s = 0; s < 4; s++) {
                due(x.many(s), s + 1);
            }
            for (int s : new int[] {LEAST, -1, 4, GREATEST}) {
                due(x.many(s), -1);
            }
        });
    }

    public static void main(String[] args) {
        aNewObject();
        rangesOfArrival();
        rowsOfArrivals();
        clear();
        offset();
        shift();
        rule();
        at();
        many();
        S.end(1, 8);
    }
}
