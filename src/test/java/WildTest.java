/** No call may throw, whatever it is told and whatever was called ahead of it. */
public final class WildTest {
    private static final int[] EDGES = {Integer.MIN_VALUE, Integer.MIN_VALUE + 1, -1000001, -1, 0, 1, 2, 3, 4, 5, 7, 8, 9, 11, 12,
        23, 24, 25, 200, 499, 500, 501, 1000, 1001, 9999, 10000, 10001, 99999, 100000, 100001, 999999, 1000000, 1000001,
        1999999, 2000000, 2000001, 99999999, 100000000, 100000001, Integer.MAX_VALUE - 1, Integer.MAX_VALUE};
    private static final String[] TEXTS = {"p100000;", "p100000;d-100000;s0,-50000;s0,-50000;s0,-50000;",
        "p100000000;z1000000;d100000;", "p100000;c4,50000,-50000,50000,-50000;c1000,-50000,50000,-50000,50000;",
        "p999999999;", "p100000;c3,1,2,3,4;", "p100000;s", "p-", ";;;"};

    private long state = 3;

    private int some(int n) {
        state = state * 6364136223846793005L + 1442695040888963407L;
        return (int) Math.floorMod(state >>> 33, (long) n);
    }

    private int any(int low, int high) {
        return some(12) == 0 ? EDGES[some(EDGES.length)] : some(6) == 0 ? (some(2) == 0 ? low : high) : low + some(high - low + 1);
    }

    private long tell(SkyClocks x) {
        if (some(3) == 0) {
            int at = any(0, 1000000);
            return x.arrival(any(0, 3), at, any(0, 1000), any(0, 2), any(0, 2000000));
        }
        switch (some(9)) {
            case 0: return x.clear(some(9) == 0 ? any(0, 3) : -1);
            case 1: return x.offset(any(0, 2), any(-1000, 1000));
            case 2: return x.shift(any(0, 1), any(0, 10), any(-500, 500));
            case 3: return x.rule(any(0, 1), any(0, 2000000));
            case 4: return x.write(any(1, 8), state);
            case 5: return x.wipe();
            default: return text(x);
        }
    }

    private long text(SkyClocks x) {
        x.wipe();
        String text = TEXTS[some(TEXTS.length)];
        for (int i = 0; i < text.length(); i++) x.write(1, text.charAt(i));
        return x.fault() + x.model(any(0, 3));
    }

    private long ask(SkyClocks x) {
        switch (some(19)) {
            case 0: return x.at(any(0, 3), any(0, 23), any(0, 4));
            case 1: return x.many(any(0, 3));
            case 2: return x.comes(any(0, 3), any(0, 10000));
            case 3: return x.residue(any(0, 3), any(0, 23));
            case 4: return x.turn(any(0, 3), any(0, 23));
            case 5: return x.ways(any(0, 3), any(100000, 200000), any(100000, 100000000));
            case 6: return x.ways(any(0, 3), any(100000, 100000000), 100000000);
            case 7: return x.way(any(0, 20), any(0, 23));
            case 8: return x.sure(any(0, 23));
            case 9: return x.fit(any(0, 20), any(0, 4));
            case 10: return x.left(any(0, 2000000), any(0, 1000));
            case 11: return x.look(any(0, 2000000), any(1, 100000), any(1, 20), any(0, 1000));
            case 12: return x.slip(any(0, 3));
            case 13: return some(8) == 0 ? x.falseShare(any(0, 3)) : x.count(any(0, 3));
            case 14: return x.hum(any(0, 3), any(0, 3));
            case 15: return some(8) == 0 ? x.shuffled(any(0, 3), any(0, 3)) : x.alarm(any(0, 3));
            case 16: return x.between(any(0, 2), any(0, 2));
            case 17: return x.loop(any(0, 2), any(0, 2), any(0, 2));
            default: return x.moved(any(0, 3));
        }
    }

    /** The answers of some objects as one number. */
    private long all() {
        long sum = 0;
        state = 3;
        for (int run = 0; run < 400; run++) {
            SkyClocks x = new SkyClocks();
            for (int i = 0; i < 512; i++) {
                sum = 31 * sum + (some(run % 2 == 0 ? 2 : 5) == 0 ? ask(x) : tell(x));
            }
        }
        return sum;
    }

    public static void main(String[] args) {
        long first = new WildTest().all();
        Due due = new Due();
        due.is("the same calls once more", new WildTest().all(), first);
        due.end();
    }
}
