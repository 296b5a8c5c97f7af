/** Alarms, halves, summers by a seed: term 5, promises 21, 23 and 24. */
final class PlanEdges extends Edges {
    /** Paint is not DRY for five hours. */
    private static final String FIVE = "fresh 10;sticky 4;";
    private static final String SUMMER = "bench 1;bench 5;bench 9;painted 0 3;painted 1 9;painted 2 20;card 1 9 30;pigeon 0 4;belief 40;";
    private static final String ALARMS = "alarm 3 10 50 4;alarm 1 20 10 3;alarm 2 4 6 3;";

    PlanEdges(Check check, Doc doc) {
        super(check, doc);
    }

    @Override
    void run() {
        heedAndCost();
        mendTerm();
        openAndWhole();
        alwaysTerm();
        drawnTerm();
        alarm();
        halves();
        drawn();
        close();
    }

    private static WetPaint alarms(String text) {
        return with(new WetPaint(), 2, text);
    }

    private void heedAndCost() {
        int[][] rows = {{1, 2, 9, 5, 0, 9}, {1, 2, 10, 5, 1, 10}, {1, 2, 11, 5, 1, 10}, {0, 1, 0, 0, 1, 0}, {0, 5, 99, 1, 0, 0}, {0, 5, 99, 0, 1, 0},
            {5, 5, 0, 0, 1, 0}, {5, 5, 0, 1, 0, 0}, {5, 5, 1, 0, 1, 0}, {20, 20, 99, 99, 1, 1980}, {20, 20, 98, 99, 0, 1960}, {19, 20, 99, 94, 1, 1880},
            {19, 20, 99, 95, 0, 1881}, {1, 20, 99, 5, 0, 99}, {1, 20, 99, 4, 1, 80}};
        term(5, "Of ALARMS: HEED: if TRUE times LOSS is OF times TOIL or more;");
        heedOrCost(rows, 4);
        term(5, "COST of an ALARM, times OF: the lesser of both;");
        heedOrCost(rows, 5);
    }

    private void heedOrCost(int[][] rows, int what) {
        for (int[] row : rows) {
            String text = "alarm " + row[0] + " " + row[1] + " " + row[2] + " " + row[3] + ";";
            due(text + " what " + what, alarms(text).alarm(0, 0, what), row[what]);
            due(text + " behind another one, what " + what, alarms("alarm 1 3 7 2;" + text).alarm(0, 1, what), row[what]);
        }
    }

    private void mend(String text, int due) {
        due("MEND of " + text, alarms(text).alarm(0, NONE, 1), due);
    }

    private void mendTerm() {
        term(5, "MEND: the ALARM of which COST falls most by its part, if one knew when it is true (then TRUE times the lesser of LOSS, TOIL, by OF);"
            + " of several the least.");
        // By 2 (8 by 2 less 4 by 2), by a half (4 by 4 less 2 by 4), by 6 by 4 (8 by 4 less 2 by 4), by nothing.
        mend("alarm 1 2 9 4;alarm 1 4 4 2;alarm 1 4 9 2;alarm 4 4 9 9;", 0);
        mend("alarm 4 4 9 9;alarm 1 4 9 2;alarm 1 4 4 2;alarm 1 2 9 4;", 3);
        mend("alarm 4 4 9 9;alarm 1 4 9 2;alarm 1 4 4 2;", 1);
        mend("alarm 4 4 9 9;alarm 1 4 4 2;", 1);
        mend("alarm 4 4 9 9;alarm 5 5 9 9;", 0);
        mend("alarm 4 4 9 9;", 0);
        // Where LOSS is the lesser of LOSS, TOIL, none falls, as one who does not HEED loses no more.
        mend("alarm 1 20 3 99;alarm 1 20 4 1;", 1);
        mend("alarm 1 20 3 99;alarm 0 20 9 9;", 0);
        // It is by OF: 4 times OF is less by 20 than 1 by 2 is.
        mend("alarm 1 20 6 1;alarm 1 2 4 2;", 1);
        mend("alarm 1 20 6 2;alarm 2 4 3 2;", 1);
        mend("alarm 2 4 3 2;alarm 1 20 6 2;", 0);
        // Of several the least: a half and two by four.
        mend("alarm 1 2 2 1;alarm 1 4 4 2;", 0);
        mend("alarm 1 4 4 2;alarm 1 2 2 1;", 0);
        mend("alarm 9 9 9 9;alarm 1 4 4 2;alarm 1 2 2 1;", 1);
        mend("alarm 9 9 9 9;".repeat(7) + "alarm 1 2 2 1;", 7);
        mend("alarm 1 20 99 4;" + "alarm 1 20 99 5;" + "alarm 1 20 99 6;", 1);
    }

    private void half(String park, String plan, int k, int open, int whole) {
        WetPaint x = with(told(park), 3, plan);
        due("OPEN of " + k + " of " + plan + " at " + park, x.halves(0, 0, k, 0), open);
        due("WHOLE of " + k + " of " + plan + " at " + park, x.halves(0, 0, k, 1), whole);
    }

    private void openAndWhole() {
        term(5, "HALVES of a PLAN at a PARK: a BENCH painted at one hour at its first half, at the other one at its second half: OPEN: hours, 0 .. 47,"
            + " at which one half or both are DRY; WHOLE: both.");
        for (String ahead : new String[] {"", "sticky 0;", "sticky 10;"}) {
            String park = FIVE + ahead + "bench 3;painted 0 30;card 0 0 47;";
            half(park, "halves 0 0 0;", 0, 43, 43);
            half(park, "halves 0 0 5;", 0, 48, 38);
            half(park, "halves 0 0 4;", 0, 47, 39);
            half(park, "halves 0 4 0;", 0, 47, 39);
            half(park, "halves 0 3 0;", 0, 46, 40);
            half(park, "halves 0 47 47;", 0, 47, 47);
            half(park, "halves 0 0 47;", 0, 48, 42);
            half(park, "halves 0 42 43;", 0, 44, 42);
            half(park, "halves 0 43 43;", 0, 43, 43);
            half(park, "halves 0 44 44;", 0, 44, 44);
        }
        half("rate 0 47 0;bench 1;", "halves 0 0 0;", 0, 0, 0);
        half("rate 0 47 0;bench 1;", "halves 0 10 20;", 0, 20, 10);
        half("rate 0 47 0;bench 1;", "halves 0 47 0;", 0, 47, 0);
        half(FIVE + "bench 1;bench 1;", "halves 1 0 0;halves 0 0 5;halves 1 3 0;", 0, 43, 43);
        half(FIVE + "bench 1;bench 1;", "halves 1 0 0;halves 0 0 5;halves 1 3 0;", 1, 48, 38);
        half(FIVE + "bench 1;bench 1;", "halves 1 0 0;halves 0 0 5;halves 1 3 0;", 2, 46, 40);
    }

    private void always(String park, String plan, int due) {
        due("ALWAYS of " + plan + " at " + park, with(told(FIVE + park), 3, plan).halves(0, 0, NONE, 0), due);
    }

    private void alwaysTerm() {
        term(5, "Of all HALVES together ALWAYS: whether at each hour of 0 .. 47 some BENCH of the PARK has a half that is DRY (those not told of:"
            + " as PAINTED; one told of oftener: as told last).");
        always("bench 1;", "halves 0 0 0;", 0);
        always("bench 1;", "halves 0 0 4;", 0);
        always("fresh 1;sticky 1;bench 1;", "halves 0 0 0;", 0);
        always("fresh 1;sticky 1;bench 1;", "halves 0 47 47;", 0);
        always("fresh 1;sticky 1;bench 1;", "halves 0 0 1;", 1);
        always("bench 1;", "halves 0 0 5;", 1);
        always("bench 1;", "halves 0 5 0;", 1);
        always("bench 1;", "halves 0 47 47;", 0);
        always("bench 1;", "halves 0 47 46;", 0);
        always("bench 1;", "halves 0 47 42;", 1);
        always("bench 1;bench 1;", "halves 0 0 0;halves 1 0 0;", 0);
        always("bench 1;bench 1;", "halves 0 0 0;halves 1 5 5;", 1);
        always("bench 1;bench 1;", "halves 0 0 0;halves 1 4 4;", 0);
        always("bench 1;bench 1;", "halves 0 0 0;halves 1 0 5;", 1);
        always("bench 1;bench 1;bench 1;", "halves 0 0 0;halves 1 2 2;halves 2 4 4;", 0);
        always("bench 1;bench 1;bench 1;", "halves 0 0 0;halves 1 2 2;halves 2 5 5;", 1);
        // Those not told of are as PAINTED, one that is told of is not.
        always("bench 1;", "", 1);
        always("bench 1;painted 0 0;", "", 0);
        always("bench 1;bench 1;", "halves 0 0 0;", 1);
        always("bench 1;bench 1;painted 1 0;", "halves 0 0 0;", 0);
        always("bench 1;bench 1;painted 1 5;", "halves 0 0 0;", 1);
        always("bench 1;bench 1;painted 1 4;", "halves 0 0 0;", 0);
        always("bench 1;painted 0 0;", "halves 0 0 5;", 1);
        always("bench 1;painted 0 40;", "halves 0 0 0;", 0);
        always("", "", 0);
        // One told of oftener is as told last.
        always("bench 1;", "halves 0 0 0;halves 0 0 5;", 1);
        always("bench 1;", "halves 0 0 5;halves 0 0 0;", 0);
        always("bench 1;", "halves 0 0 5;halves 0 0 0;halves 0 9 4;", 1);
        always("bench 1;bench 1;", "halves 0 0 5;halves 1 0 0;halves 0 0 0;", 0);
        always("bench 1;bench 1;", "halves 1 0 0;halves 0 0 0;halves 1 9 4;halves 0 0 0;halves 0 0 0;halves 0 1 1;", 1);
    }

    /** n COMERS as they are drawn, told as a text. */
    private static String comers(int seed, int n, int benches) {
        String[] habits = {"card", "touch", "print", "sheep", "best"};
        int[] below = {5, 48, benches, 10, 10, 10};
        long x = seed & 0xffffffffL;
        StringBuilder text = new StringBuilder();
        for (int i = 0; i < n; i++) {
            text.append("comer");
            for (int j = 0; j < 6; j++) {
                x = (x * 1103515245L + 12345L) & 0xffffffffL;
                int number = (int) ((x >> 16) % below[j]);
                text.append(' ').append(j == 0 ? habits[number] : Integer.toString(number));
            }
            text.append(';');
        }
        return text.toString();
    }

    private void drawnTerm() {
        term(5, "DRAWN by a SEED, x; a number below n is drawn: x becomes x * 1103515245 + 12345 (of 32 bits), it is x shifted right by 16 without sign,"
            + " remainder by n: n COMERS, 1 to 14, in place of those told, each: a HABIT below 5, an hour below 48, a BENCH below all,"
            + " WORTH, STAIN, TOUCH below 10: the DAY.");
        // SEED 0: 12345, 3554416254, 2802067423, 3596950572, 229283573, 3256818826, by 65536: 0, 54236, 42756, 54885, 3498, 49695.
        due("the first COMER of SEED 0", comers(0, 1, 3).equals("comer card 44 0 5 8 5;"), true);
        WetPaint x = told("bench 6;bench 1;bench 1;painted 0 44;comer touch 44 0 9 9 9;", "bench 6;bench 1;bench 1;card 0 44 44;");
        int[] wet = {8, 5, 1, 0, 6, 1, 0, 0};
        int[] card = {5, 0, 0, 0, 0, 0, 0, 0};
        for (int what = 0; what < 8; what++) {
            due("DRAWN by 0 at a WET one, what " + what, x.drawn(0, 0, 1, what), wet[what]);
            due("DRAWN by 0 under a CARD, what " + what, x.drawn(1, 0, 1, what), card[what]);
        }
        due("what he did", x.drawn(0, 0, 1, 30), 3);
        due("what he did under a CARD", x.drawn(1, 0, 1, 30), 0);
        due("he alone came", x.drawn(0, 0, 1, 31), NONE);
        due("COMERS stay as told", x.told(0, 2, 0, 0), 1);
        String[] told = {SUMMER, "bench 3;painted 0 8;pigeon 0 9;", "bench 1;".repeat(6) + "painted 5 20;painted 3 9;card 2 0 47;card 5 18 40;"};
        int[] benches = {3, 1, 6};
        int[] seeds = {0, 1, 2, -1, -2, 65535, 65536, 1 << 30, 20261118, Integer.MIN_VALUE, Integer.MAX_VALUE};
        for (int i = 0; i < told.length; i++) {
            for (int seed : seeds) {
                for (int n = 1; n <= 14; n++) {
                    drawnAsTold(told[i], benches[i], seed, n);
                }
            }
        }
    }

    private void drawnAsTold(String park, int benches, int seed, int n) {
        String call = "DRAWN by " + seed + ", " + n + " COMERS, at " + park;
        WetPaint x = told(park + "comer best 20 0 9 0 0;comer card 3 0 9 9 9;");
        WetPaint y = told(park + comers(seed, n, benches));
        for (int what = -1; what < 30; what++) {
            due(call + ", what " + what, x.drawn(0, seed, n, what), y.day(0, what));
        }
        for (int k = 0; k < 16; k++) {
            due(call + ", what " + k + " did", x.drawn(0, seed, n, 30 + k), k < n ? y.did(0, k, 0) : NONE);
        }
    }

    private void alarm() {
        promise(21, "How many ALARMS (k NONE, what 0), MEND (k NONE, what 1; NONE: none);");
        WetPaint x = with(new WetPaint(), 2, "", ALARMS);
        row("how many, MEND", what -> x.alarm(1, NONE, what), NO_SUCH, 3, 0);
        row("how many of none, MEND of none", what -> x.alarm(0, NONE, what), NO_SUCH, 0, NONE);
        promise(21, "of ALARM k, what 0: TRUE, 1: OF, 2: LOSS, 3: TOIL, 4: 1 to HEED, else 0, 5: COST.");
        row("ALARM 0", what -> x.alarm(1, 0, what), NO_SUCH, 3, 10, 50, 4, 1, 40);
        row("ALARM 1", what -> x.alarm(1, 1, what), NO_SUCH, 1, 20, 10, 3, 0, 10);
        row("ALARM 2", what -> x.alarm(1, 2, what), NO_SUCH, 2, 4, 6, 3, 1, 12);
        promise(21, "-2: there is none such (of either), or for another what.");
        WetPaint y = with(new WetPaint(), 2, "", ALARMS);
        for (int what : new int[] {0, 3, 4, 5}) {
            outside("by ALARM, what " + what, k -> y.alarm(1, k, what), NO_SUCH, what == 0 ? NONE : 0, 2);
            outside("by ALARMS, what " + what, alarms -> y.alarm(alarms, 0, what), NO_SUCH, 1, 1);
        }
        outside("MEND by ALARMS", alarms -> y.alarm(alarms, NONE, 1), NO_SUCH, 0, 1);
        outside("how many by ALARMS", alarms -> y.alarm(alarms, NONE, 0), NO_SUCH, 0, 1);
        outside("how many, what", what -> y.alarm(1, NONE, what), NO_SUCH, 0, 1);
        outside("of ALARM 2, what", what -> y.alarm(1, 2, what), NO_SUCH, 0, 5);
        due("ALARM 0 of none", y.alarm(0, 0, 4), NO_SUCH);
        due("no ALARMS", new WetPaint().alarm(0, NONE, 1), NO_SUCH);
    }

    private void halves() {
        promise(23, "HALVES k at a PARK, what 0: OPEN, 1: WHOLE; k NONE: ALWAYS (what 0), 1 or 0.");
        WetPaint x = with(told("", FIVE + "bench 3;"), 3, "", "halves 0 0 0;halves 0 0 4;");
        row("HALVES 0", what -> x.halves(1, 1, 0, what), NONE, 43, 43);
        row("HALVES 1", what -> x.halves(1, 1, 1, what), NONE, 47, 39);
        row("ALWAYS", what -> x.halves(1, 1, NONE, what), NONE, 0);
        row("ALWAYS without HALVES", what -> x.halves(1, 0, NONE, what), NONE, 1);
        due("PAINTED stays as told", x.bench(1, 0, 1), NONE);
        promise(23, "NONE: any BENCH that the PLAN tells of is not there, there is none such (of any), or for another what.");
        WetPaint y = with(told(FIVE + "bench 3;", FIVE + "bench 3;bench 3;"), 3, "halves 0 0 0;halves 1 0 5;", "halves 0 0 0;halves 5 0 5;");
        for (int k = NONE; k < 2; k++) {
            due("one is not there, k " + k, y.halves(0, 0, k, 0), NONE);
            due("another one is not there, k " + k, y.halves(1, 1, k, 0), NONE);
        }
        due("where both are there", y.halves(1, 0, 1, 0), 48);
        due("where both are there, ALWAYS", y.halves(1, 0, NONE, 0), 1);
        due("in a PARK of none", with(told(""), 3, "halves 0 0 0;").halves(0, 0, NONE, 0), NONE);
        for (int what = 0; what < 2; what++) {
            int asked = what;
            outside("by HALVES, what " + what, k -> y.halves(1, 0, k, asked), NONE, asked == 0 ? NONE : 0, 1);
            outside("by PLAN, what " + what, plan -> y.halves(1, plan, 0, asked), NONE, 0, 0);
            outside("by PARK, what " + what, park -> y.halves(park, 0, 0, asked), NONE, 1, 1);
        }
        outside("ALWAYS by PLAN", plan -> y.halves(1, plan, NONE, 0), NONE, 0, 0);
        outside("ALWAYS by PARK", park -> y.halves(park, 0, NONE, 0), NONE, 1, 1);
        due("HALVES 0 of none", with(told("bench 1;"), 3, "").halves(0, 0, 0, 0), NONE);
    }

    private void drawn() {
        promise(24, "DRAWN, n COMERS, 1 .. 14, what as day(), or 30 + k: what the k-th did (as did() 0).");
        WetPaint x = told("", SUMMER);
        WetPaint y = told("", SUMMER + comers(-7, 14, 3));
        int[] due = new int[44];
        for (int what = 0; what < 44; what++) {
            due[what] = what < 30 ? y.day(1, what) : y.did(1, what - 30, 0);
        }
        row("DRAWN", what -> x.drawn(1, -7, 14, what), NONE, due);
        promise(24, "NONE: there are no BENCHES, there is none such (of any), another n, or for another what.");
        WetPaint z = told("", SUMMER);
        for (int what : new int[] {0, 5, 30}) {
            due("no BENCHES, what " + what, z.drawn(0, 1, 1, what), NONE);
            outside("by PARK, what " + what, park -> z.drawn(park, 1, 1, what), NONE, 1, 1);
            outside("by n, what " + what, n -> z.drawn(1, 1, n, what), NONE, 1, 14);
        }
        for (int what : new int[] {-1, -2, 8, 9, 13, 19, 23, 29, 31, 44, 45, 60, Integer.MIN_VALUE, Integer.MAX_VALUE}) {
            due("what " + what, z.drawn(1, 1, 1, what), NONE);
        }
        due("the 14th", z.drawn(1, 1, 14, 43) == NONE, false);
        due("the 14th of 13", z.drawn(1, 1, 13, 43), NONE);
    }
}
