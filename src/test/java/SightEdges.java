/** When a BENCH may have been PAINTED, by PRINTS seen there: term 4, promises 18 to 20. */
final class SightEdges extends Edges {
    /**
     * BENCH 0 may have been PAINTED at 0 (weight 2: WET at 0 to 2, STICKY at 3, 4), at 2 (weight 3: WET at 2 to 4, STICKY at 5, 6) or at 4
     * (weight 1: WET at 4 to 6, STICKY at 7, 8); DRY at all other hours. BENCH 1 was never PAINTED, BENCH 2 at 4.
     */
    private static final String MAY = "fresh 10;sticky 4;bench 1;bench 1;bench 1;maybe 0 0 2;maybe 0 2 3;maybe 0 4 1;painted 2 4;";
    private static final String NUMBERS = "comer card 47 1 6 5 3;comer touch 46 1 1 9 0;comer print 45 2 0 9 9;comer sheep 44 1 0 0 0;"
        + "comer best 43 1 3 9 3;comer card 42 1 1 3 9;comer touch 0 0 4 7 0;";

    SightEdges(Check check, Doc doc) {
        super(check, doc);
    }

    @Override
    void run() {
        maybes();
        fit();
        likelyTerm();
        actTerm();
        readTerm();
        tellsTerm();
        likely();
        act();
        read();
        close();
    }

    private static WetPaint seen(String park, String sight) {
        return with(told(park), 1, sight);
    }

    /** READ's how many hours, the first, the last of them, and all weights. */
    private void read(String park, String sight, int bench, int... due) {
        WetPaint x = seen(park, sight);
        for (int what = 0; what < due.length; what++) {
            due("READ " + what + " of " + bench + " by " + sight + " of " + park, x.read(0, 0, bench, what), due[what]);
        }
    }

    private void maybes() {
        term(4, "By MAYBES of a BENCH (it was PAINTED at just one of these hours, by weights; none: at the hour told, or never) and a SIGHT:");
        read(MAY, "", 0, 3, 0, 4, 6);
        read(MAY, "", 1, 0, NONE, NONE, 1);
        read(MAY, "", 2, 1, 4, 4, 1);
        read("bench 1;painted 0 0;", "", 0, 1, 0, 0, 1);
        read("bench 1;painted 0 47;", "", 0, 1, 47, 47, 1);
        // The hour told is nothing to a BENCH that has MAYBES; those of another BENCH are nothing to it.
        read(MAY + "painted 0 9;", "", 0, 3, 0, 4, 6);
        read("bench 1;bench 1;maybe 0 47 9;", "", 0, 1, 47, 47, 9);
        read("bench 1;bench 1;maybe 0 47 9;", "", 1, 0, NONE, NONE, 1);
        read("bench 1;bench 1;maybe 1 3 9;maybe 0 5 2;maybe 1 1 4;", "", 1, 2, 1, 3, 13);
        StringBuilder eight = new StringBuilder("bench 1;");
        for (int k = 0; k < 8; k++) {
            eight.append("maybe 0 ").append(40 - 5 * k).append(" 9;");
        }
        read(eight.toString(), "", 0, 8, 5, 40, 72);
    }

    private void fit() {
        term(4, "those FIT by which each PRINT seen at that BENCH is as the STAGE at its hour, and of no hour ahead of PAINTED (never: all are dust):"
            + " their weights.");
        read(MAY, "deep 0 0;", 0, 1, 0, 0, 2);
        read(MAY, "deep 0 2;", 0, 2, 0, 2, 5);
        read(MAY, "deep 0 3;", 0, 1, 2, 2, 3);
        read(MAY, "deep 0 4;", 0, 2, 2, 4, 4);
        read(MAY, "deep 0 7;", 0, 0, NONE, NONE, 0);
        read(MAY, "faint 0 3;", 0, 1, 0, 0, 2);
        read(MAY, "faint 0 5;", 0, 1, 2, 2, 3);
        read(MAY, "faint 0 8;", 0, 1, 4, 4, 1);
        read(MAY, "faint 0 9;", 0, 0, NONE, NONE, 0);
        read(MAY, "dust 0 5;", 0, 1, 0, 0, 2);
        read(MAY, "dust 0 8;", 0, 2, 0, 2, 5);
        read(MAY, "dust 0 9;", 0, 3, 0, 4, 6);
        // Ahead of PAINTED it is DRY, but no dust is seen of such an hour.
        read(MAY, "dust 0 1;", 0, 0, NONE, NONE, 0);
        read(MAY, "dust 0 3;", 0, 0, NONE, NONE, 0);
        read(MAY, "dust 2 3;", 2, 0, NONE, NONE, 0);
        read(MAY, "dust 2 9;", 2, 1, 4, 4, 1);
        read(MAY, "deep 2 4;", 2, 1, 4, 4, 1);
        read(MAY, "deep 2 7;", 2, 0, NONE, NONE, 0);
        read(MAY, "dust 1 0;dust 1 47;", 1, 0, NONE, NONE, 1);
        read(MAY, "deep 1 5;", 1, 0, NONE, NONE, 0);
        read(MAY, "faint 1 5;", 1, 0, NONE, NONE, 0);
        // Each of them, in whatever order; those of other BENCHES, there or not, are nothing to it.
        read(MAY, "deep 0 4;faint 0 5;", 0, 1, 2, 2, 3);
        read(MAY, "faint 0 5;deep 0 4;", 0, 1, 2, 2, 3);
        read(MAY, "deep 0 2;dust 0 8;faint 0 3;", 0, 1, 0, 0, 2);
        read(MAY, "deep 0 3;faint 0 3;", 0, 0, NONE, NONE, 0);
        read(MAY, "dust 0 47;".repeat(9) + "deep 0 4;", 0, 2, 2, 4, 4);
        read(MAY, "deep 1 30;faint 5 30;dust 2 0;", 0, 3, 0, 4, 6);
        // A weight is that of its MAYBE, also where two are of one hour.
        read("fresh 10;sticky 4;bench 1;maybe 0 5 2;maybe 0 0 4;maybe 0 5 9;", "deep 0 5;", 0, 1, 5, 5, 11);
    }

    /** LIKELY of DRY, STICKY and WET: three times N, D. */
    private void likely(String park, String sight, int bench, int hour, int... due) {
        WetPaint x = seen(park, sight);
        for (int stage = 0; stage < 3; stage++) {
            String call = "LIKELY " + stage + " at " + hour + " of " + bench + " by " + sight + " of " + park;
            due(call + ", N", x.likely(0, 0, bench, hour, stage, false), due[2 * stage]);
            due(call + ", D", x.likely(0, 0, bench, hour, stage, true), due[2 * stage + 1]);
        }
    }

    private void likelyTerm() {
        term(4, "LIKELY: how likely a STAGE is at an hour (an hour ahead of PAINTED: DRY), a fraction in least terms.");
        likely(MAY, "", 0, 0, 2, 3, 0, 1, 1, 3);
        likely(MAY, "", 0, 1, 2, 3, 0, 1, 1, 3);
        likely(MAY, "", 0, 2, 1, 6, 0, 1, 5, 6);
        likely(MAY, "", 0, 3, 1, 6, 1, 3, 1, 2);
        likely(MAY, "", 0, 4, 0, 1, 1, 3, 2, 3);
        likely(MAY, "", 0, 5, 1, 3, 1, 2, 1, 6);
        likely(MAY, "", 0, 9, 1, 1, 0, 1, 0, 1);
        likely(MAY, "", 0, 47, 1, 1, 0, 1, 0, 1);
        likely(MAY, "deep 0 4;", 0, 5, 0, 1, 3, 4, 1, 4);
        likely(MAY, "deep 0 4;", 0, 0, 1, 1, 0, 1, 0, 1);
        likely(MAY, "", 1, 4, 1, 1, 0, 1, 0, 1);
        likely(MAY, "", 2, 3, 1, 1, 0, 1, 0, 1);
        likely(MAY, "", 2, 4, 0, 1, 0, 1, 1, 1);
        likely(MAY, "", 2, 7, 0, 1, 1, 1, 0, 1);
        likely("fresh 10;sticky 4;bench 1;maybe 0 0 9;maybe 0 40 3;maybe 0 0 9;", "", 0, 0, 1, 7, 0, 1, 6, 7);
    }

    /** ACT of COMER k of NUMBERS: the best one, its worth N, D, and the worth of each act times all weights. */
    private void act(String sight, int bench, int hour, int k, int... due) {
        WetPaint x = seen(MAY + NUMBERS, sight);
        for (int what = 0; what < due.length; what++) {
            due("ACT " + what + " of " + k + " at " + hour + " of " + bench + " by " + sight, x.act(0, 0, bench, hour, k, what), due[what]);
        }
    }

    private void actTerm() {
        term(4, "ACT of a COMER's numbers at an hour: go (0): 0; touch (1): WORTH, if DRY, less what TOUCHING costs; sit (2): WORTH less what SITTING costs:"
            + " the means by weights: the best one, of several the least number; its worth, a fraction.");
        // At 5 DRY has the weight 2, STICKY 3, WET 1.
        act("", 0, 5, 0, 2, 25, 6, 0, 6 * 2 - 3 - 3, 6 * 6 - 3 * 2 - 5);
        act("", 0, 5, 1, 1, 1, 3, 0, 2, 6 - 3 * 4 - 9);
        act("", 0, 5, 2, 0, 0, 1, 0, -3 * 4 - 9, -3 * 4 - 9);
        // Of several the least number: all three alike, go as touch, go as sit, touch as sit.
        act("", 0, 5, 3, 0, 0, 1, 0, 0, 0);
        act("", 0, 5, 4, 0, 0, 1, 0, 0, 3 * 6 - 3 * 4 - 9);
        act("", 0, 5, 5, 0, 0, 1, 0, 2 - 3 * 4 - 9, 0);
        act("", 0, 5, 6, 1, 4, 3, 0, 8, 6 * 4 - 3 * 3 - 7);
        // All DRY, whether ahead of PAINTED, behind it, or never; all WET; all STICKY.
        act("", 0, 9, 0, 1, 6, 1, 0, 36, 36);
        act("", 1, 9, 0, 1, 6, 1, 0, 6, 6);
        act("", 2, 3, 0, 1, 6, 1, 0, 6, 6);
        act("", 2, 4, 0, 2, 1, 1, 0, -3, 1);
        act("", 2, 7, 0, 2, 4, 1, 0, -1, 4);
        act("", 2, 4, 1, 0, 0, 1, 0, 0, -8);
        // By those that FIT alone: at 5 STICKY has the weight 3, WET 1.
        act("deep 0 4;", 0, 5, 0, 2, 13, 4, 0, -3 - 3, 4 * 6 - 3 * 2 - 5);
    }

    private void readTerm() {
        term(4, "READ: how many unlike hours FIT (never is none); the first, the last of them;");
        read("bench 1;maybe 0 30 1;maybe 0 9 2;maybe 0 30 3;maybe 0 9 4;", "", 0, 2, 9, 30, 10);
        read("bench 1;maybe 0 0 1;", "", 0, 1, 0, 0, 1);
        read("bench 1;maybe 0 47 1;maybe 0 0 1;", "", 0, 2, 0, 47, 2);
        read("bench 1;maybe 0 7 9;maybe 0 7 9;maybe 0 7 9;maybe 0 7 9;maybe 0 7 9;maybe 0 7 9;maybe 0 7 9;maybe 0 7 9;", "", 0, 1, 7, 7, 72);
        read("bench 1;", "", 0, 0, NONE, NONE, 1);
        read(MAY, "dust 0 8;", 0, 2, 0, 2, 5);
        read(MAY, "deep 0 4;", 0, 2, 2, 4, 4);
    }

    private void tells(String park, String sight, int bench, int due) {
        due("TELLS of " + bench + " by " + sight + " of " + park, seen(park, sight).read(0, 0, bench, 4), due);
    }

    private void tellsTerm() {
        term(4, "TELLS: the hour, from the last PRINT seen there on (without: 0), at which a touch would leave the least of the greatest weight of one STAGE;"
            + " of several the least.");
        // The greatest weights by hours: 4, 4, 5, 3, 4, 3, 3, 5, 5, 6 and so on.
        tells(MAY, "", 0, 3);
        tells(MAY, "deep 2 5;", 0, 3);
        tells(MAY, "dust 1 40;", 0, 3);
        tells(MAY, "deep 0 4;", 0, 5);
        // Without: 0, where all hours are alike.
        tells(MAY, "", 1, 0);
        tells(MAY, "", 2, 0);
        // From the last PRINT on: that hour is one of them, and the last hour too.
        tells(MAY, "dust 0 8;", 0, 8);
        tells(MAY, "dust 0 47;", 0, 47);
        tells(MAY, "dust 1 30;", 1, 30);
        tells(MAY, "deep 2 5;", 2, 5);
        tells(MAY, "deep 0 4;dust 0 9;", 0, 9);
        tells(MAY, "dust 0 9;deep 0 4;", 0, 9);
        tells(MAY, "dust 1 9;dust 1 40;dust 1 7;", 1, 40);
        // At the first hour, at the last one, between them; of several the least.
        tells("fresh 10;sticky 4;bench 1;maybe 0 0 1;maybe 0 1 1;", "", 0, 0);
        tells("fresh 10;sticky 4;bench 1;maybe 0 44 1;maybe 0 45 1;", "deep 0 46;", 0, 47);
        tells("fresh 10;sticky 4;bench 1;maybe 0 47 1;maybe 0 0 1;", "dust 0 47;", 0, 47);
        tells("fresh 60;sticky 4;rate 0 47 0;bench 1;maybe 0 47 1;maybe 0 46 1;", "", 0, 46);
        tells("fresh 60;sticky 59;rate 0 47 0;bench 1;maybe 0 0 1;maybe 0 1 1;maybe 0 47 2;", "", 0, 1);
        tells("fresh 60;sticky 59;rate 0 47 0;bench 1;maybe 0 0 3;maybe 0 1 3;maybe 0 2 3;maybe 0 47 8;", "", 0, 2);
        // The greatest one is by STAGES, not by hours; DRY, STICKY and WET may each have it.
        tells("fresh 10;sticky 4;bench 1;maybe 0 0 2;maybe 0 1 2;maybe 0 9 3;", "", 0, 3);
    }

    private void likely() {
        promise(18, "LIKELY, a STAGE 0 .. 2 at an hour, N, or (under) D.");
        WetPaint x = with(told("", MAY), 1, "", "deep 0 4;");
        int[] n = {0, 3, 1};
        int[] d = {1, 4, 4};
        for (int stage = 0; stage < 3; stage++) {
            due("N of " + stage, x.likely(1, 1, 0, 5, stage, false), n[stage]);
            due("D of " + stage, x.likely(1, 1, 0, 5, stage, true), d[stage]);
        }
        promise(18, "NONE: none FIT, or there is none such (of any).");
        with(x, 2, "");
        due("none FIT", Check.text(x, 1, 0, "deep 0 7;"), 0);
        for (boolean under : new boolean[] {false, true}) {
            for (int stage = 0; stage < 3; stage++) {
                due("none FIT, " + stage, x.likely(1, 0, 0, 5, stage, under), NONE);
            }
            outside("by STAGE", stage -> x.likely(1, 1, 0, 5, stage, under), NONE, 0, 2);
            outside("by hour", hour -> x.likely(1, 1, 0, hour, 0, under), NONE, 0, 47);
            outside("by BENCH", bench -> x.likely(1, 1, bench, 5, 0, under), NONE, 0, 2);
            outside("by SIGHT", sight -> x.likely(1, sight, 0, 5, 0, under), NONE, 0, 1);
            outside("by PARK", park -> x.likely(park, 1, 0, 5, 0, under), NONE, 1, 1);
        }
        due("no SIGHT", told(MAY).likely(0, 0, 0, 5, 0, false), NONE);
        due("no PARK", with(new WetPaint(), 1, "").likely(0, 0, 0, 5, 0, false), NONE);
    }

    private void act() {
        promise(19, "ACT of COMER k's numbers (at a BENCH told, an hour told), what 0: the best one, 1, 2: its worth, N, D, 3 + a: worth of act a, 0 .. 2,"
            + " times all weights.");
        WetPaint x = with(told("", MAY + NUMBERS), 1, "", "deep 0 4;");
        row("ACT of 0", what -> x.act(1, 1, 0, 5, 0, what), NO_WORTH, 2, 13, 4, 0, -6, 13);
        row("ACT of 0 at another hour", what -> x.act(1, 1, 0, 47, 0, what), NO_WORTH, 1, 6, 1, 0, 24, 24);
        row("ACT of 6 at another BENCH", what -> x.act(1, 1, 2, 4, 6, what), NO_WORTH, 0, 0, 1, 0, 0, -3);
        promise(19, "-1000000: none FIT, there is none such (of any), or for another what.");
        WetPaint y = with(told("", MAY + NUMBERS), 1, "deep 0 7;", "deep 0 4;");
        for (int what = 0; what < 6; what++) {
            due("none FIT, " + what, y.act(1, 0, 0, 5, 0, what), NO_WORTH);
        }
        for (int what : new int[] {0, 2, 3}) {
            outside("by COMER", k -> y.act(1, 1, 0, 5, k, what), NO_WORTH, 0, 6);
            outside("by hour", hour -> y.act(1, 1, 0, hour, 0, what), NO_WORTH, 0, 47);
            outside("by BENCH", bench -> y.act(1, 1, bench, 5, 0, what), NO_WORTH, 0, 2);
            outside("by SIGHT", sight -> y.act(1, sight, 0, 5, 0, what), NO_WORTH, 1, 1);
            outside("by PARK", park -> y.act(park, 1, 0, 5, 0, what), NO_WORTH, 1, 1);
        }
        due("what 6", y.act(1, 1, 0, 5, 0, 6), NO_WORTH);
        due("what -1", y.act(1, 1, 0, 5, 0, -1), NO_WORTH);
        due("no SIGHT", told(MAY + NUMBERS).act(0, 0, 0, 5, 0, 0), NO_WORTH);
    }

    private void read() {
        promise(20, "READ, what 0: how many hours, 1, 2: the first, the last (NONE: none), 3: all weights, 4: TELLS (NONE: none FIT).");
        WetPaint x = with(told("", MAY), 1, "", "deep 0 4;");
        row("READ", what -> x.read(1, 1, 0, what), NO_SUCH, 2, 2, 4, 4, 5);
        row("READ of never", what -> x.read(1, 1, 1, what), NO_SUCH, 0, NONE, NONE, 1, 0);
        WetPaint y = with(told("", MAY), 1, "deep 0 7;deep 1 3;", "deep 0 4;");
        row("READ, none FIT", what -> y.read(1, 0, 0, what), NO_SUCH, 0, NONE, NONE, 0, NONE);
        row("READ of never, none FIT", what -> y.read(1, 0, 1, what), NO_SUCH, 0, NONE, NONE, 0, NONE);
        promise(20, "-2: there is none such (of any), or for another what.");
        WetPaint z = with(told("", MAY), 1, "", "deep 0 4;");
        for (int what = 0; what < 5; what++) {
            int asked = what;
            outside("by BENCH", bench -> z.read(1, 1, bench, asked), NO_SUCH, 0, 2);
            outside("by SIGHT", sight -> z.read(1, sight, 0, asked), NO_SUCH, 0, 1);
            outside("by PARK", park -> z.read(park, 1, 0, asked), NO_SUCH, 1, 1);
        }
        due("what 5", z.read(1, 1, 0, 5), NO_SUCH);
        due("what -1", z.read(1, 1, 0, -1), NO_SUCH);
        due("no SIGHT", told(MAY).read(0, 0, 0, 0), NO_SUCH);
        due("no PARK", with(new WetPaint(), 1, "").read(0, 0, 0, 0), NO_SUCH);
    }
}
