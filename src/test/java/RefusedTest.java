import java.util.ArrayList;
import java.util.List;

/**
 * "Of several the first; nothing changes then.": behind each refused call an object answers all that can be asked
 * as one of the same calls without it.
 */
public final class RefusedTest {
    private static final Sentences S = new Sentences();
    private static final int STATES = 5, NEW = 0, RICH = 1, SPENT = 2, BROKEN = 3, CROWDED = 4;
    private static final int PARTS = 9;

    interface Call {
        long on(SkyClocks x);
    }

    /** An object in one of the states that calls are refused in. */
    private static SkyClocks made(int state) {
        SkyClocks x = new SkyClocks();
        if (state == NEW) {
            return x;
        }
        tables(x);
        stars(x);
        switch (state) {
            case SPENT:
                Sky.spend(x);
                break;
            case BROKEN:
                x.clear(1);
                Sky.write(x, "c5,1");
                break;
            case CROWDED:
                Sky.arrivals(x, 0, 3, new int[24]);
                Sky.write(x, "s1,1;".repeat(40));
                for (int i = 0; i < 8; i++) {
                    x.write(1, ';');
                }
                break;
            default:
                break;
        }
        return x;
    }

    private static void tables(SkyClocks x) {
        for (int i = 0; i < 3; i++) {
            x.offset(i, 5 - 4 * i);
        }
        for (int bin = 0; bin < 11; bin++) {
            x.shift(0, bin, bin);
            x.shift(1, bin, 3 - bin);
        }
        x.rule(0, 1);
        x.rule(1, 500000);
    }

    /** STARS 0 to 2 with MODELS and ARRIVALS, STAR 3 with two ARRIVALS that count; three WAYS of STAR 0. */
    private static void stars(SkyClocks x) {
        Sky.model(x, 0, "p1000000;z3;c5,100,-200,300,0;");
        Sky.model(x, 1, "p1000000;d1;");
        Sky.model(x, 2, "p2000000;s5000,400;");
        for (int k = 0; k < 8; k++) {
            x.arrival(0, 1000 * (k * k + 1) + k, 4, k % 3, k * 90000);
            x.arrival(1, 1000 * k + 7 - k, 2, k % 2, 9);
            x.arrival(2, 2000 * k + k % 4, 1, (k + 1) % 3, 700000 - k * 90000);
        }
        x.arrival(3, 50, 1, 0, 500000);
        x.arrival(3, 60, 2, 1, 500001);
        x.arrival(3, 1060, 3, 2, 500000);
        x.ways(0, 330000, 1030000);
        Sky.fault(x, "p300000;z6;s4,1;");
    }

    private static void look(List<Long> seen, long answer) {
        seen.add(answer);
    }

    /** What an object answers; in parts, for it is used for 512 calls at most. */
    private static List<Long> seen(SkyClocks x, int part) {
        List<Long> seen = new ArrayList<>();
        switch (part) {
            case 0: case 1: case 2: case 3: starSeen(x, part, seen); break;
            case 4: tablesSeen(x, seen); break;
            case 5: textSeen(x, seen); break;
            case 6: turnsSeen(x, seen); break;
            case 7: waysSeen(x, seen); break;
            default: slipsSeen(x, seen); break;
        }
        return seen;
    }

    private static void starSeen(SkyClocks x, int s, List<Long> seen) {
        look(seen, x.many(s));
        look(seen, x.count(0));
        look(seen, x.rule(1, 2000000));
        for (int k = 0; k < 24; k++) {
            for (int what = 0; what < 5; what++) {
                look(seen, x.at(s, k, what));
            }
        }
        look(seen, x.count(0));
        look(seen, x.clear(s));
    }

    private static void tablesSeen(SkyClocks x, List<Long> seen) {
        look(seen, x.rule(0, 0));
        look(seen, x.rule(1, 0));
        for (int i = 0; i < 3; i++) {
            look(seen, x.offset(i, 0));
        }
        for (int bin = 0; bin < 11; bin++) {
            look(seen, x.shift(0, bin, 0));
            look(seen, x.shift(1, bin, 0));
        }
    }

    private static void textSeen(SkyClocks x, List<Long> seen) {
        look(seen, x.count(2));
        look(seen, x.fault());
        look(seen, x.model(3));
        for (int n = 0; n < 20; n++) {
            look(seen, x.comes(3, n));
        }
        look(seen, x.write(2, ';' << 8 | ';'));
        look(seen, x.fault());
        look(seen, x.wipe());
        Sky.write(x, "p100000;");
        look(seen, x.model(3));
        look(seen, x.comes(3, 7));
        look(seen, x.count(1));
    }

    private static void turnsSeen(SkyClocks x, List<Long> seen) {
        look(seen, x.count(1));
        for (int s = 0; s < 4; s++) {
            for (int n = 0; n < 20; n++) {
                look(seen, x.comes(s, n));
            }
            look(seen, x.comes(s, 1000));
            look(seen, x.comes(s, 10000));
            for (int k = 0; k < 24; k++) {
                look(seen, x.residue(s, k));
                look(seen, x.turn(s, k));
            }
        }
    }

    private static void waysSeen(SkyClocks x, List<Long> seen) {
        look(seen, x.count(3));
        for (int k = 0; k < 24; k++) {
            look(seen, x.sure(k));
            for (int i = 0; i < 5; i++) {
                look(seen, x.way(i, k));
            }
        }
        for (int i = 0; i < 25; i++) {
            look(seen, x.fit(i / 5, i % 5));
        }
        for (int t = 49000; t < 70000; t += 500) {
            look(seen, x.left(t, 20));
        }
        look(seen, x.look(60000, 317, 20, 3));
    }

    private static void slipsSeen(SkyClocks x, List<Long> seen) {
        for (int a = 0; a < 4; a++) {
            look(seen, x.slip(a));
            look(seen, x.falseShare(a));
            look(seen, x.moved(a));
            look(seen, x.alarm(a));
            for (int b = 0; b < 4; b++) {
                look(seen, x.hum(a, b));
                look(seen, x.shuffled(a, b));
                look(seen, x.between(a, b));
                look(seen, x.loop(a, b, 3 - a - b));
            }
        }
    }

    private static void refusedIn(int state, Call call, long want) {
        for (int part = 0; part < PARTS; part++) {
            SkyClocks called = made(state);
            S.due(call.on(called), want);
            List<Long> got = seen(called, part);
            List<Long> due = seen(made(state), part);
            for (int i = 0; i < due.size(); i++) {
                S.due(got.get(i), due.get(i));
            }
        }
    }

    /** A call is refused in this state, and changes nothing. */
    private static void refused(int promise, int state, Call call, long want) {
        S.test(promise, "Of several the first; nothing changes then.", x -> refusedIn(state, call, want));
    }

    /** A call is refused in all states. */
    private static void bad(int promise, Call call, long want) {
        S.test(promise, "BAD: a number is none that is told.", x -> {
            for (int state = 0; state < STATES; state++) {
                refusedIn(state, call, want);
            }
        });
    }

    private static void ofArrivals() {
        int[][] wrong = {{-1, 5, 5, 1, 5}, {4, 5, 5, 1, 5}, {0, -1, 5, 1, 5}, {0, 1000001, 5, 1, 5}, {0, 5, -1, 1, 5},
            {0, 5, 1001, 1, 5}, {0, 5, 5, -1, 5}, {0, 5, 5, 3, 5}, {0, 5, 5, 1, -1}, {0, 5, 5, 1, 2000001}};
        for (int[] w : wrong) {
            bad(2, x -> x.arrival(w[0], w[1], w[2], w[3], w[4]), -1);
        }
        refused(2, CROWDED, x -> x.arrival(0, 5, 5, 1, 5), -3);
        refused(2, CROWDED, x -> x.arrival(0, 1000000, 5, 1, 2000000), -3);
        for (int s : new int[] {-1, 4}) {
            bad(3, x -> x.clear(s), -1);
            bad(8, x -> x.many(s), -1);
        }
        bad(4, x -> x.offset(-1, 1), Sky.BAD_AT);
        bad(4, x -> x.offset(3, 1), Sky.BAD_AT);
        bad(4, x -> x.offset(1, -1001), Sky.BAD_AT);
        bad(4, x -> x.offset(1, 1001), Sky.BAD_AT);
        int[][] shifts = {{-1, 0, 9}, {2, 0, 9}, {0, -1, 9}, {0, 11, 9}, {1, -1, 9}, {1, 0, -501}, {1, 0, 501}};
        for (int[] w : shifts) {
            bad(5, x -> x.shift(w[0], w[1], w[2]), Sky.BAD_AT);
        }
        int[][] rules = {{-1, 0}, {2, 0}, {0, -1}, {0, 2}, {1, -1}, {1, 2000001}};
        for (int[] w : rules) {
            bad(6, x -> x.rule(w[0], w[1]), -1);
        }
        int[][] places = {{-1, 0, 0}, {4, 0, 0}, {0, -1, 0}, {0, 24, 0}, {0, 0, -1}, {0, 0, 5}};
        for (int[] w : places) {
            bad(7, x -> x.at(w[0], w[1], w[2]), Sky.BAD_AT);
        }
        refused(7, NEW, x -> x.at(0, 0, 0), Sky.NO_AT);
        refused(7, RICH, x -> x.at(0, 6, 0), Sky.NO_AT);
    }

    private static void ofTexts() {
        bad(9, x -> x.write(0, 'x'), -1);
        bad(9, x -> x.write(9, 'x'), -1);
        bad(9, x -> x.write(-1, 'x'), -1);
        for (int n = 1; n <= 8; n++) {
            int many = n;
            refused(9, CROWDED, x -> x.write(many, 0x7878787878787878L), -3);
        }
        for (int s : new int[] {-1, 4}) {
            bad(12, x -> x.model(s), -1);
            bad(13, x -> x.comes(s, 0), -1);
            bad(14, x -> x.residue(s, 0), Sky.BAD_RESIDUE);
            bad(15, x -> x.turn(s, 0), -1);
        }
        for (int s = 0; s < 4; s++) {
            int star = s;
            refused(12, NEW, x -> x.model(star), -2);
            refused(12, BROKEN, x -> x.model(star), -2);
            refused(12, CROWDED, x -> x.model(star), -2);
        }
        bad(13, x -> x.comes(0, -1), -1);
        bad(13, x -> x.comes(0, 10001), -1);
        refused(13, NEW, x -> x.comes(0, 0), -2);
        refused(13, RICH, x -> x.comes(3, 0), -2);
        refused(13, RICH, x -> x.comes(0, 10000), -2);
        for (int k : new int[] {-1, 24}) {
            bad(14, x -> x.residue(0, k), Sky.BAD_RESIDUE);
            bad(15, x -> x.turn(0, k), -1);
        }
        refused(14, RICH, x -> x.residue(0, 6), Sky.NO_RESIDUE);
        refused(14, RICH, x -> x.residue(3, 0), Sky.NO_RESIDUE);
        refused(15, RICH, x -> x.turn(0, 6), -2);
        refused(15, RICH, x -> x.turn(3, 0), -2);
    }

    private static void ofWays() {
        int[][] wrong = {{-1, 100000, 100001}, {4, 100000, 100001}, {0, 99999, 100001}, {0, 100000, 100000001},
            {0, 100001, 100000}, {0, 100000001, 100000001}, {0, 99999, 99999}};
        for (int[] w : wrong) {
            bad(16, x -> x.ways(w[0], w[1], w[2]), -1);
        }
        refused(16, NEW, x -> x.ways(0, 100000, 100001), -2);
        refused(16, BROKEN, x -> x.ways(1, 970000, 1030000), -2);
        bad(17, x -> x.way(-1, 0), -1);
        bad(17, x -> x.way(0, -1), -1);
        bad(17, x -> x.way(0, 24), -1);
        bad(18, x -> x.sure(-1), -1);
        bad(18, x -> x.sure(24), -1);
        bad(19, x -> x.fit(-1, 0), Sky.BAD_LONG);
        bad(19, x -> x.fit(0, -1), Sky.BAD_LONG);
        bad(19, x -> x.fit(0, 5), Sky.BAD_LONG);
        int[][] lefts = {{-1, 5}, {2000001, 5}, {60000, -1}, {60000, 1001}};
        for (int[] w : lefts) {
            bad(20, x -> x.left(w[0], w[1]), -1);
        }
        int[][] looks = {{-1, 1, 1, 0}, {2000001, 1, 1, 0}, {60000, 0, 1, 0}, {60000, 100001, 1, 0}, {60000, 1, 0, 0},
            {60000, 1, 21, 0}, {60000, 1, 1, -1}, {60000, 1, 1, 1001}, {1999999, 1, 3, 0}};
        for (int[] w : looks) {
            bad(21, x -> x.look(w[0], w[1], w[2], w[3]), -1);
        }
        for (int state : new int[] {NEW, SPENT}) {
            refused(17, state, x -> x.way(0, 0), -2);
            refused(18, state, x -> x.sure(0), -2);
            refused(19, state, x -> x.fit(0, 0), Sky.NO_LONG);
            refused(20, state, x -> x.left(2000000, 0), -2);
            refused(21, state, x -> x.look(2000000, 1, 1, 0), -2);
        }
        refused(17, RICH, x -> x.way(0, 6), -2);
        refused(17, RICH, x -> x.way(3, 0), -4);
        refused(18, RICH, x -> x.sure(6), -2);
        refused(19, RICH, x -> x.fit(3, 0), Sky.NO_LONG);
        refused(20, RICH, x -> x.left(10000, 0), -2);
        refused(21, RICH, x -> x.look(10000, 1, 1, 0), -2);
    }

    private static void ofSlips() {
        for (int s : new int[] {-1, 4}) {
            bad(22, x -> x.slip(s), -1);
            bad(23, x -> x.falseShare(s), -1);
            bad(24, x -> x.hum(s, 0), Sky.BAD_LONG);
            bad(24, x -> x.hum(0, s), Sky.BAD_LONG);
            bad(25, x -> x.shuffled(s, 0), -1);
            bad(25, x -> x.shuffled(0, s), -1);
            bad(28, x -> x.moved(s), -1);
            bad(29, x -> x.alarm(s), -1);
            bad(30, x -> x.count(s), -1);
        }
        bad(24, x -> x.hum(2, 2), Sky.BAD_LONG);
        bad(25, x -> x.shuffled(2, 2), -1);
        for (int i : new int[] {-1, 3}) {
            bad(26, x -> x.between(i, 0), Sky.BAD_BETWEEN);
            bad(26, x -> x.between(0, i), Sky.BAD_BETWEEN);
            bad(27, x -> x.loop(0, 1, i), Sky.BAD_BETWEEN);
        }
        bad(26, x -> x.between(1, 1), Sky.BAD_BETWEEN);
        bad(27, x -> x.loop(0, 1, 1), Sky.BAD_BETWEEN);
        for (int state : new int[] {NEW, RICH}) {
            refused(22, state, x -> x.slip(3), -2);
            refused(23, state, x -> x.falseShare(3), -2);
            refused(24, state, x -> x.hum(0, 3), Sky.NO_LONG);
            refused(25, state, x -> x.shuffled(3, 0), -2);
            refused(28, state, x -> x.moved(3), -2);
            refused(29, state, x -> x.alarm(3), -2);
        }
        refused(22, BROKEN, x -> x.slip(1), -2);
        refused(23, CROWDED, x -> x.falseShare(3), -2);
        refused(26, NEW, x -> x.between(0, 1), Sky.NO_BETWEEN);
        refused(27, NEW, x -> x.loop(0, 1, 2), Sky.NO_BETWEEN);
    }

    /** The states are what they are made for. */
    private static void states() {
        S.test(30, "3 WAYS of the latest ways()", x -> {
            S.due(made(RICH).count(3), 3);
            S.due(made(SPENT).count(3), 0);
            S.due(made(RICH).count(1), 3);
            S.due(made(RICH).fault(), -4);
            S.due(made(BROKEN).fault(), 16);
            S.due(made(CROWDED).count(2), 200);
            S.due(made(RICH).many(0), 6);
            S.due(made(RICH).many(3), 2);
        });
    }

    public static void main(String[] args) {
        states();
        ofArrivals();
        ofTexts();
        ofWays();
        ofSlips();
        // wipe() and fault() refuse nothing
        S.end(2, 30, 10, 11);
    }
}
