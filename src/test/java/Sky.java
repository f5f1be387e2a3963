/** What tests tell an object by more than one call. */
final class Sky {
    static final long BAD_LONG = -1000000000000000000L, NO_LONG = -1000000000000000002L;
    static final int BAD_AT = -100000, NO_AT = -100002, BAD_RESIDUE = -1000000000, NO_RESIDUE = -1000000002;
    static final int BAD_BETWEEN = -10000000, NO_BETWEEN = -10000002;

    /** Writes a text of signs 0 to 255, eight at a time. */
    static void write(SkyClocks x, String text) {
        for (int i = 0; i < text.length(); i += 8) {
            int n = Math.min(8, text.length() - i);
            long v = 0;
            for (int j = 0; j < n; j++) {
                v = v << 8 | text.charAt(i + j);
            }
            x.write(n, v);
        }
    }

    static int fault(SkyClocks x, String text) {
        x.wipe();
        write(x, text);
        return x.fault();
    }

    static int model(SkyClocks x, int star, String text) {
        x.wipe();
        write(x, text);
        return x.model(star);
    }

    /** A STAR of PERIOD 1000 from 0 on, with ARRIVALS of ERR 1 by INSTRUMENT 0 that have these RESIDUES. */
    static void residues(SkyClocks x, int star, int... all) {
        model(x, star, "p1000000;");
        for (int i = 0; i < all.length; i++) {
            x.arrival(star, 1000 * (i + 1) + all[i], 1, 0, 0);
        }
    }

    static SkyClocks withResidues(int... all) {
        SkyClocks x = new SkyClocks();
        residues(x, 0, all);
        return x;
    }

    /** ARRIVALS of one ERR at these times, in their order. */
    static void arrivals(SkyClocks x, int star, int err, int... times) {
        for (int t : times) {
            x.arrival(star, t, err, 0, 0);
        }
    }

    /** STAR 3 has more than 500 WAYS: SPENT. */
    static void spend(SkyClocks x) {
        x.clear(3);
        arrivals(x, 3, 0, 0, 1000000);
        x.ways(3, 100000, 100000000);
    }
}
