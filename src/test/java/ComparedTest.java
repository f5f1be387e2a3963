import java.util.TreeMap;

/** Long runs of calls, told by a fixed row of numbers: each answer is compared with that of PlainSky. */
public final class ComparedTest {
    private static final int RUNS = 40, STEPS = 45;

    private final TreeMap<String, Integer> seen = new TreeMap<>();
    private long state;
    private SkyClocks sky;
    private PlainSky plain;
    private int run;
    private int wrong = 0;
    private long period;

    private int some(int n) {
        state = state * 6364136223846793005L + 1442695040888963407L;
        return (int) Math.floorMod(state >>> 33, (long) n);
    }

    private int from(int low, int high) {
        return low + some(high - low + 1);
    }

    private boolean rarely() {
        return some(25) == 0;
    }

    private int star() {
        return rarely() ? from(-1, 4) : some(4) > 0 ? (run + some(2)) % 4 : some(4);
    }

    private int place() {
        return rarely() ? from(-1, 24) : some(some(3) == 0 ? 24 : 5);
    }

    /** Compares, and counts the kind of answer by the name of the call. */
    private void same(String call, long got, long want) {
        same(call, got, want, kind(call.substring(0, call.indexOf('(')), want));
    }

    private void same(String call, long got, long want, String kind) {
        seen.merge(kind, 1, Integer::sum);
        if (got != want && wrong++ < 20) {
            System.out.println("run " + run + ": " + call + " answered " + got + ", due is " + want);
        }
    }

    private static String call(String name, long... all) {
        StringBuilder told = new StringBuilder(name).append('(');
        for (int i = 0; i < all.length; i++) told.append(i == 0 ? "" : ", ").append(all[i]);
        return told.append(')').toString();
    }

    private static String kind(String name, long answer) {
        return name + (answer == -1 ? " BAD" : answer == -2 ? " NO" : answer == -3 ? " FULL" : answer == -4 ? " NONE"
                : answer == -5 ? " SPENT" : answer == -100000 || answer == -1000000000 || answer == -10000000
                || answer == PlainSky.BAD_LONG ? " BAD" : answer == -100002 || answer == -1000000002 || answer == -10000002
                || answer == PlainSky.NO_LONG ? " NO" : answer == 0 ? " 0" : answer == 1 ? " 1" : " more");
    }

    private void write(String text) {
        for (int i = 0; i < text.length(); ) {
            int n = Math.min(from(1, 8), text.length() - i);
            long v = some(3) == 0 ? state : 0;
            for (int j = 0; j < n; j++) v = v << 8 | (text.charAt(i + j) & 255);
            same(call("write", n, v), sky.write(n, v), plain.write(n, v));
            i += n;
        }
    }

    private String number(int low, int high) {
        if (rarely()) return some(2) == 0 ? "" + (low - 1) : "" + (high + 1);
        if (rarely()) return some(2) == 0 ? "" + low : "" + high;
        if (some(60) == 0) return new String[] {"", "-", "0000000001", "--1", "1-", " 1", "-0", "000000007", "1a"}[some(9)];
        int v = from(low, high);
        return (some(4) == 0 && v >= 0 ? "0" : "") + v;
    }

    private String item() {
        switch (some(9)) {
            case 0: case 1: return "z" + number(0, some(2) == 0 ? 2000 : 1000000) + ";";
            case 2: return "d" + number(-100000, 100000) + ";";
            case 3: case 4: return "s" + number(0, some(2) == 0 ? 20000 : 1000000) + "," + number(-50000, 50000) + ";";
            case 5: case 6:
                return "c" + number(4, some(2) == 0 ? 12 : 1000) + "," + number(-50000, 50000) + "," + number(-9000, 9000)
                        + "," + number(-50000, 50000) + "," + number(-50000, 50000) + ";";
            default:
                return rarely() ? new String[] {";", "x1;", "p200000;", "z1", "d1,2;", "s1;", "c5,1,2,3;", "\u00ff;", "z1;;"}[some(9)] : "";
        }
    }

    private void text() {
        same("wipe()", sky.wipe(), plain.wipe());
        StringBuilder told = new StringBuilder(rarely() ? item() : "p" + (some(3) > 0 ? "" + period : number(100000, some(2) == 0 ? 300000 : 100000000)) + ";");
        for (int i = some(7); i > 0; i--) told.append(item());
        write(told.toString());
        long fault = plain.fault();
        same("fault() of " + told, sky.fault(), fault, "fault" + (fault == -4 ? " NONE" : fault == 0 ? " 0" : " more"));
        int s = star();
        same(call("model", s), sky.model(s), plain.model(s));
    }

    private void arrival() {
        int s = star();
        int at;
        if (some(4) == 0) at = from(0, 1000000);
        else at = (int) Math.min(1000000, some(some(2) == 0 ? 12 : 9000) * period / 1000 + from(-3, 3) * some(4));
        if (at < 0) at = 0;
        if (rarely()) at = new int[] {-1, 0, 1000000, 1000001, 99999, 100000}[some(6)];
        int err = rarely() ? from(-1, 1) : some(40) == 0 ? from(999, 1001) : some(some(5) == 0 ? 1000 : 12);
        int instrument = some(40) == 0 ? from(-1, 3) : some(3);
        int known = rarely() ? new int[] {-1, 0, 2000000, 2000001}[some(4)] : Math.min(2000000, at + some(3000));
        same(call("arrival", s, at, err, instrument, known), sky.arrival(s, at, err, instrument, known),
                plain.arrival(s, at, err, instrument, known));
    }

    private void turnAll(int s) {
        for (int k = some(9) - 1; k <= Math.min(24, plain.many(s)); k++) {
            same(call("residue", s, k), sky.residue(s, k), plain.residue(s, k));
            same(call("turn", s, k), sky.turn(s, k), plain.turn(s, k));
        }
    }

    private void ways() {
        int s = star();
        int low, high;
        switch (some(6)) {
            case 0: low = from(100000, 400000); high = low + some(4000); break;
            case 1: low = (int) period; high = low; break;
            case 2: low = rarely() ? 99999 : 100000; high = rarely() ? 100000001 : 100000000; break;
            default: low = (int) period - some(3000); high = (int) period + some(3000);
        }
        if (rarely()) low = high + 1;
        long due = plain.ways(s, low, high);
        String kind = kind("ways", due) + (due == -5 ? plain.tried > 20000 ? " by tries" : " by ways" : "");
        same(call("ways", s, low, high), sky.ways(s, low, high), due, kind);
        for (int i = plain.count(3) > 1 ? 12 : some(3); i > 0; i--) asks();
    }

    private void asks() {
        int n = plain.count(3);
        int i = rarely() ? from(-1, 501) : n > 0 ? some(n + (some(5) == 0 ? 1 : 0)) : some(3);
        int k = place();
        same(call("way", i, k), sky.way(i, k), plain.way(i, k));
        same(call("sure", k), sky.sure(k), plain.sure(k));
        int what = rarely() ? from(-1, 5) : some(5);
        long fit = plain.fit(i, what);
        same(call("fit", i, what), sky.fit(i, what), fit, kind("fit", fit) + (what == 4 ? " outside" : ""));
        int t = some(3) == 0 ? from(900000, 2000001) : (int) (some(9500) * period / 1000) + from(-9, 9);
        int e = rarely() ? from(-1, 1) : some(40) == 0 ? from(999, 1001) : some(some(2) == 0 ? 4 : 60);
        same(call("left", t, e), sky.left(t, e), plain.left(t, e));
        int step = rarely() ? from(-1, 1) : some(2) == 0 ? from(1, 90) : some(60) == 0 ? from(99999, 100001) : from(1, 90000);
        int many = rarely() ? from(-1, 21) : from(1, some(3) == 0 ? 20 : 5);
        same(call("look", t, step, many, e), sky.look(t, step, many, e), plain.look(t, step, many, e));
    }

    private void hums() {
        int s = star();
        same(call("slip", s), sky.slip(s), plain.slip(s));
        same(call("falseShare", s), sky.falseShare(s), plain.falseShare(s));
        int o = star();
        same(call("hum", s, o), sky.hum(s, o), plain.hum(s, o));
        same(call("shuffled", s, o), sky.shuffled(s, o), plain.shuffled(s, o));
        same(call("moved", s), sky.moved(s), plain.moved(s));
        same(call("alarm", s), sky.alarm(s), plain.alarm(s));
        int i = rarely() ? from(-1, 3) : some(3), j = rarely() ? from(-1, 3) : (i + 1 + some(2)) % 3;
        int k = rarely() ? from(-1, 3) : Math.floorMod(3 - i - j, 3);
        same(call("between", i, j), sky.between(i, j), plain.between(i, j));
        same(call("loop", i, j, k), sky.loop(i, j, k), plain.loop(i, j, k));
    }

    private void tables() {
        int i = rarely() ? from(-1, 3) : some(3);
        int v = rarely() ? from(-1, 1) * from(999, 1001) : from(-6, 6);
        same(call("offset", i, v), sky.offset(i, v), plain.offset(i, v));
        int ver = rarely() ? from(-1, 2) : some(2);
        int bin = rarely() ? from(-1, 11) : some(11);
        v = rarely() ? from(-1, 1) * from(499, 501) : from(-6, 6);
        same(call("shift", ver, bin, v), sky.shift(ver, bin, v), plain.shift(ver, bin, v));
        int what = rarely() ? from(-1, 2) : some(2);
        v = what == 0 ? (rarely() ? from(-1, 2) : some(2)) : rarely() ? from(-1, 2000001) : some(2) == 0 ? 2000000 : from(0, 1000000);
        same(call("rule", what, v), sky.rule(what, v), plain.rule(what, v));
    }

    private void counts() {
        int s = star(), k = place(), what = rarely() ? from(-1, 5) : some(5);
        same(call("at", s, k, what), sky.at(s, k, what), plain.at(s, k, what));
        same(call("many", s), sky.many(s), plain.many(s));
        same(call("count", what), sky.count(what), plain.count(what));
        int n = rarely() ? new int[] {-1, 0, 10000, 10001}[some(4)] : from(0, some(2) == 0 ? 20 : 10000);
        same(call("comes", s, n), sky.comes(s, n), plain.comes(s, n));
    }

    private void odd() {
        int s = star();
        if (some(6) == 0) same(call("clear", s), sky.clear(s), plain.clear(s));
        int n = from(-1, 9);
        same(call("write", n, state), sky.write(n, state), plain.write(n, state));
        same("fault()", sky.fault(), plain.fault());
    }

    private void step() {
        switch (some(20)) {
            case 0: case 1: text(); break;
            case 2: case 9: case 10: ways(); break;
            case 3: tables(); break;
            case 4: turnAll(star()); break;
            case 5: hums(); break;
            case 6: case 7: counts(); break;
            case 8: if (some(4) == 0) odd(); break;
            default: arrival();
        }
    }

    /** Two STARS with a MODEL and ARRIVALS ahead of all else, so that most calls have something to tell. */
    private void start() {
        int first = star();
        for (int i = 0; i < 2; i++) {
            text();
            for (int j = some(12) == 0 ? 50 : some(9); j > 0; j--) arrival();
        }
        if (plain.fault() == PlainSky.NONE) {
            same(call("model", first), sky.model(first), plain.model(first));
        }
    }

    private void oneRun() {
        state = 977L * run + 5;
        // each run on an object that answers no more calls than are promised
        for (int part = 0; part < 3; part++) {
            sky = new SkyClocks();
            plain = new PlainSky();
            period = some(3) == 0 ? 100000 + some(2000) : 100000 + some(some(2) == 0 ? 300000 : 9000000);
            start();
            for (int i = 0; i < STEPS; i++) step();
        }
    }

    private void end() {
        String[] wanted = {"ways SPENT by ways", "ways SPENT by tries", "ways 1", "ways more", "ways 0", "look more", "look NONE", "left more",
            "left 0", "fit more outside", "fit 1 outside", "sure more", "sure NONE", "falseShare more", "falseShare NO", "slip more",
            "shuffled more", "hum more", "between more", "loop more", "loop NO", "moved more", "alarm more", "alarm NONE",
            "arrival FULL", "model more", "model NO", "fault more", "fault 0", "comes NO", "comes more", "residue more"};
        for (String kind : wanted) {
            if (!seen.containsKey(kind)) {
                wrong++;
                System.out.println("no run had: " + kind);
            }
        }
        System.out.println(wrong == 0 ? "all answers are as due" : wrong + " answers are not as due");
        if (wrong != 0) System.exit(1);
    }

    public static void main(String[] args) {
        ComparedTest test = new ComparedTest();
        for (test.run = 0; test.run < (args.length > 0 ? Integer.parseInt(args[0]) : RUNS); test.run++) test.oneRun();
        if (args.length > 0) System.out.println(test.seen);
        test.end();
    }
}
