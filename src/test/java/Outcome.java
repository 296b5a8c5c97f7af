/** The calls that tell what comes of what is told, by numbers, so that two objects can be asked alike. */
final class Outcome {
    static final int CALLS = 19;

    private static final String[] NAMES = {"wet", "did", "day", "hang", "rule", "card", "days", "order", "likely", "act", "read", "alarm", "halves",
        "drawn", "drawn's comers", "otherwise", "spare", "anew", "mend"};

    private Outcome() {
    }

    static String name(int call) {
        return NAMES[call];
    }

    /** at: which PARK, SIGHT, ALARMS, PLAN; n: an hour, a BENCH, a further number, what. */
    static int ask(WetPaint x, int call, int[] at, int[] n, int seed, boolean other) {
        int park = at[0];
        int bench = n[1];
        switch (call) {
            case 0: return x.wet(park, bench, n[0], n[3]);
            case 1: return x.did(park, n[2], n[3]);
            case 2: return x.day(park, other ? n[3] : 10 * (1 + n[2] % 2) + bench);
            case 3: return x.hang(park, bench, other);
            case 4: return x.rule(park, n[3]);
            case 5: return x.card(park, bench, n[3]);
            case 6: return x.days(park, n[2] * 2 + 1, n[3]);
            case 7: return x.order(park, n[0], bench);
            case 8: return x.likely(park, at[1], bench, n[0], n[3], other);
            case 9: return x.act(park, at[1], bench, n[0], n[2] % 4, n[3]);
            case 10: return x.read(park, at[1], bench, n[3]);
            case 11: return x.alarm(at[2], n[2] % 8, n[3]);
            case 12: return x.halves(park, at[3], bench, n[3] % 2);
            case 13: return x.drawn(park, seed, n[2] + 1, n[3]);
            case 14: return x.drawn(park, seed, 14, 30 + n[2]);
            case 15: return x.otherwise(park, n[2] % 4, n[3]);
            case 16: return x.spare(park, n[3]);
            case 17: return x.anew(park, bench, other);
            default: return x.alarm(at[2], WetPaint.NONE, 1);
        }
    }
}
