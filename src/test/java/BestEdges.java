/** What would be best, and DAYS in a row: term 3, promises 12 to 16. */
final class BestEdges extends Edges {
    /** Paint of hour 5: WET at 5 to 8, STICKY at 9, 10, DRY from 11 on; bench 1 is never PAINTED. */
    private static final String PAINT = "fresh 12;sticky 4;bench 7;bench 3;painted 0 5;";
    /** One is DRY five hours behind its paint. */
    private static final String SLOW = "fresh 5;sticky 1;rate 0 47 1;";
    /** The first one GOES when he BELIEVES, on odd days; his SITTING, which is TRUE, makes it a third again, which is enough. */
    private static final String ODD = "belief 33;bench 1;painted 0 0;card 0 0 47;comer card 1 0 9 5 0;comer touch 20 0 0 0 0;";

    BestEdges(Check check, Doc doc) {
        super(check, doc);
    }

    @Override
    void run() {
        hangTerm();
        ruleTerm();
        cardTerm();
        daysTerm();
        painting();
        rowsOfBenches();
        hang();
        rule();
        card();
        days();
        order();
        close();
    }

    private void hang(String text, int bench, int harm, int hour) {
        WetPaint x = told(text);
        due("HANG's HARM of " + text, x.hang(0, bench, false), harm);
        due("HANG's hour of " + text, x.hang(0, bench, true), hour);
    }

    private void hangTerm() {
        term(3, "HANG of a BENCH: its CARD hanging from PAINTED (never: hour 0) up to an hour t, 0 to 47 (not ahead of it), or none, all else as told:"
            + " the least HARM of a DAY;");
        hang(PAINT + "comer card 9 0 1 9 1;comer card 11 0 4 9 1;", 0, 0, 9);
        hang(PAINT + "comer card 5 0 1 9 1;", 0, 0, 5);
        hang(PAINT + "comer card 5 0 1 9 1;comer card 8 0 1 9 1;", 0, 0, 8);
        hang("bench 1;painted 0 0;comer card 0 0 1 9 1;", 0, 0, 0);
        hang("bench 1;painted 0 47;comer card 47 0 1 9 1;", 0, 0, 47);
        hang("rate 0 47 0;bench 1;painted 0 46;comer card 46 0 1 9 1;comer card 47 0 1 9 1;", 0, 0, 47);
        // It hangs from PAINTED on, so not at hour 3, where it is as told.
        hang("bench 1;painted 0 9;card 0 0 47;comer card 3 0 5 1 1;comer card 9 0 5 8 1;", 0, 0, 9);
        // A CARD that hangs longer has him miss more than it spares the other one.
        hang(PAINT + "comer card 6 0 1 2 1;comer card 11 0 9 9 1;comer card 10 0 1 1 1;", 0, 0, 6);
        hang(PAINT + "comer best 8 0 9 5 1;", 0, 5, NONE);
        // Of never it hangs from hour 0: the one who TOUCHES under it finds it not TRUE, so the other one BELIEVES none.
        for (int hour : new int[] {0, 1, 8, 9}) {
            hang("belief 50;bench 1;bench 1;card 1 0 47;comer touch " + hour + " 0 0 0 0;comer card 9 1 5 1 1;", 0, 0, hour);
        }
        hang("belief 50;bench 1;bench 1;card 1 0 47;comer touch 10 0 0 0 0;comer card 9 1 5 1 1;", 0, 5, NONE);
        // None, where one is told; the CARD of another BENCH stays as told.
        hang("bench 1;card 0 0 47;comer card 12 0 1 9 1;", 0, 0, NONE);
        hang(PAINT + "card 0 5 10;comer card 6 0 1 9 1;", 1, 0, NONE);
        hang(PAINT + "comer card 6 0 1 9 1;", 1, 9, NONE);
        term(3, "the hour (none: -1), of several none ahead of all, then the least.");
        hang(PAINT, 0, 0, NONE);
        hang(PAINT + "comer card 9 0 1 1 1;", 0, 0, NONE);
        hang(PAINT + "comer touch 8 0 1 1 6;", 0, 6, NONE);
        hang(PAINT + "comer card 20 0 1 1 1;", 0, 0, NONE);
        hang(PAINT + "comer card 6 0 1 9 1;", 0, 0, 6);
        hang(PAINT + "comer card 6 0 1 9 1;comer card 20 0 0 1 1;", 0, 0, 6);
        hang(PAINT + "comer card 6 0 1 9 1;comer card 9 0 1 1 1;", 0, 0, 6);
    }

    private void rule(String text, int least, int... harm) {
        WetPaint x = told(text);
        for (int habit = 0; habit < 5; habit++) {
            due("HARM by " + habit + " of " + text, x.rule(0, habit), harm[habit]);
        }
        due("RULE of " + text, x.rule(0, NONE), least);
    }

    private void ruleTerm() {
        term(3, "RULE: all COMERS having one HABIT: HARM;");
        for (String habit : new String[] {"card", "touch", "print", "sheep", "best"}) {
            String early = "comer " + habit + " 7 0 9 5 3;";
            String late = "comer " + habit + " 20 0 9 5 3;";
            rule(PAINT + "card 0 5 10;" + early + late, 0, 0, 3, 5, 9, 5);
            rule(PAINT + "comer " + habit + " 7 0 4 5 0;" + late, 1, 5, 0, 5, 9, 0);
            rule(PAINT + "pigeon 0 6;" + early + late, 2, 5, 3, 0, 9, 5);
            rule(PAINT + early, 3, 5, 3, 5, 0, 5);
            rule(PAINT + "comer " + habit + " 7 0 4 5 3;" + late, 4, 5, 3, 5, 9, 0);
            // All of them: the second one SITS, GOES as the first one does.
            rule(PAINT + early + early, 3, 10, 6, 5, 0, 10);
        }
        term(3, "the HABIT of the least, of several the least.");
        rule(PAINT, 0, 0, 0, 0, 0, 0);
        rule(PAINT + "comer best 9 0 1 9 1;comer best 20 0 4 9 1;", 1, 4, 0, 4, 4, 0);
        rule(PAINT + "comer touch 20 0 4 9 1;", 0, 0, 0, 0, 4, 0);
        rule(PAINT + "card 0 5 20;comer touch 20 0 4 9 1;", 1, 4, 0, 0, 4, 0);
        rule(PAINT + "card 0 5 20;pigeon 0 6;comer touch 7 0 4 5 1;comer touch 20 0 4 9 1;", 2, 4, 1, 0, 4, 0);
        rule(PAINT + "comer touch 8 0 1 5 1;", 3, 5, 1, 5, 0, 0);
    }

    private void cardTerm() {
        term(3, "SAYS of a BENCH: the hour that, said on a CARD (\"wet till\"), is true: DRIES.");
        WetPaint x = told(PAINT + "bench 1;painted 2 44;card 0 0 20;comer card 4 0 1 1 1;comer card 5 0 1 1 1;comer touch 8 0 1 1 1;"
            + "comer print 10 0 1 1 1;comer best 11 0 1 1 1;comer sheep 9 0 1 1 1;comer card 5 1 1 1 1;pigeon 0 6;comer card 47 2 1 1 1;");
        int[] says = {11, 0, 48};
        int[] late = {4, 0, 1};
        int[] longest = {37, 48, 44};
        for (int b = 0; b < 3; b++) {
            due("SAYS of " + b, x.card(0, b, 0), says[b]);
        }
        due("SAYS at 47", told("fresh 12;sticky 4;bench 1;painted 0 41;").card(0, 0, 0), 47);
        due("SAYS behind 47", told("fresh 12;sticky 4;bench 1;painted 0 42;").card(0, 0, 0), 48);
        term(3, "LATE: how many COMERS come to a BENCH while it is not DRY;");
        for (int b = 0; b < 3; b++) {
            due("LATE of " + b, x.card(0, b, 1), late[b]);
        }
        due("LATE without COMERS", told(PAINT + "pigeon 0 6;").card(0, 0, 1), 0);
        due("LATE, all", told(PAINT + "comer card 10 0 1 1 1;".repeat(14)).card(0, 0, 1), 14);
        term(3, "LONGEST: the hours of the longest row of hours at which it is DRY.");
        for (int b = 0; b < 3; b++) {
            due("LONGEST of " + b, x.card(0, b, 2), longest[b]);
        }
        // Six hours are not DRY from hour p on.
        int[][] rows = {{0, 42}, {20, 22}, {21, 21}, {22, 22}, {41, 41}, {42, 42}, {43, 43}, {47, 47}};
        for (int[] row : rows) {
            due("LONGEST of " + row[0], told("fresh 12;sticky 4;bench 1;painted 0 " + row[0] + ";").card(0, 0, 2), row[1]);
        }
        due("LONGEST of none", told("rate 0 47 0;bench 1;painted 0 0;").card(0, 0, 2), 0);
    }

    private void daysTerm() {
        term(3, "DAYS by BELIEF, one behind the other, alike, 1 to 30, what was found out kept: HARM of the last one;");
        for (int d = 1; d <= 30; d++) {
            due("HARM of day " + d, told(ODD).days(0, d, 0), d % 2 == 0 ? 5 : 0);
            // Alike: neither who SAT nor PRINTS are kept from one day to the next one.
            due("SHEEP on day " + d, told("bench 1;comer sheep 3 0 4 1 1;comer card 5 0 1 1 1;").days(0, d, 0), 4);
            due("PRINT on day " + d, told("bench 1;painted 0 0;comer print 0 0 1 7 1;pigeon 0 9;").days(0, d, 0), 7);
        }
        WetPaint x = told(ODD);
        due("30 days", x.days(0, 30, 0), 5);
        due("a DAY keeps nothing of them", x.day(0, 0), 0);
        due("nor of itself", x.did(0, 0, 0), 0);
        due("nor do DAYS of others", x.days(0, 1, 0), 0);
        due("one found out on a DAY", x.day(0, 7), 1);
        term(3, "on how many days, from the second one on, it is not that of the day ahead;");
        for (int d = 1; d <= 30; d++) {
            due("unlike by day " + d, told(ODD).days(0, d, 1), d - 1);
            due("all alike by day " + d, told(PAINT + "comer card 8 0 1 9 1;").days(0, d, 1), 0);
            // HARM 3 on the first day, none on all others.
            due("unlike once by day " + d, told("belief 50;bench 1;card 0 0 47;comer card 1 0 3 1 1;comer touch 2 0 1 1 1;").days(0, d, 1), d == 1 ? 0 : 1);
        }
        term(3, "the share of TRUE of all times, a fraction in least terms (none found out: 1).");
        for (int d = 1; d <= 30; d++) {
            int k = d / 2;
            share(ODD, d, d % 2 == 0 ? 1 : k, d % 2 == 0 ? 3 : 3 * k + 1);
            share("bench 1;painted 0 0;card 0 0 47;comer touch 0 0 0 0 0;", d, 1, 1);
            share("bench 1;card 0 0 47;comer touch 0 0 0 0 0;", d, 0, 1);
            share("bench 1;comer touch 0 0 0 0 0;", d, 1, 1);
            share("", d, 1, 1);
            share(PAINT + "card 0 0 47;comer touch 8 0 0 0 0;comer touch 9 0 0 0 0;comer touch 11 0 0 0 0;", d, 2, 3);
        }
    }

    private void share(String text, int days, int n, int d) {
        WetPaint x = told(text);
        due("share N by day " + days + " of " + text, x.days(0, days, 2), n);
        due("share D by day " + days + " of " + text, x.days(0, days, 3), d);
    }

    private void order(String text, int from, int hour, int... row) {
        WetPaint x = told(text);
        due("ORDER from " + from + " of " + text, x.order(0, from, NONE), hour);
        for (int k = 0; k < row.length; k++) {
            due("BENCH " + k + " of ORDER from " + from + " of " + text, x.order(0, from, k), row[k]);
        }
        due("one behind the last", x.order(0, from, row.length), NO_SUCH);
    }

    private void painting() {
        term(3, "ORDER: all BENCHES, whatever was PAINTED, are to be painted anew from an hour s on, one behind the other, each for as many hours"
            + " as SLATS by 3 (upwards);");
        int[] hours = {0, 1, 1, 1, 2, 2, 2, 3, 3, 3};
        for (int slats = 1; slats < 10; slats++) {
            order(SLOW + "bench " + slats + ";", 0, hours[slats] + 5, 0);
            order(SLOW + "bench " + slats + ";painted 0 3;", 4, 4 + hours[slats] + 5, 0);
            for (int other = 1; other < 10; other++) {
                order(SLOW + "bench " + slats + ";bench " + other + ";", 0, hours[slats] + 5 + hours[other] + 5, 0, 1);
            }
        }
        order(SLOW + "bench 1;bench 1;painted 0 0;painted 1 3;card 0 0 47;", 2, 2 + 12, 0, 1);
        term(3, "paint of it is of the hour it is finished;");
        order("fresh 5;sticky 1;rate 0 47 0;rate 10 12 5;bench 9;", 9, 13, 0);
        order("fresh 5;sticky 1;rate 0 47 0;rate 10 12 5;bench 9;", 10, NONE, NONE);
        order("fresh 5;sticky 1;rate 0 9 0;rate 10 47 5;bench 9;", 0, 11, 0);
        order("fresh 5;sticky 1;rate 0 9 0;rate 10 47 5;bench 9;", 10, 14, 0);
        term(3, "a BENCH is begun as soon as the painter is free, if another one is DRY then (neither being painted nor WET nor STICKY);"
            + " else as soon as one is;");
        order(SLOW + "bench 1;bench 1;bench 1;", 0, 12, 0, 1, 2);
        order(SLOW + "bench 1;bench 1;bench 1;bench 1;bench 1;bench 1;", 0, 12, 0, 1, 2, 3, 4, 5);
        order(SLOW + "sticky 0;bench 1;bench 1;", 0, 12, 0, 1);
        order(SLOW + "sticky 5;bench 1;bench 1;", 0, 12, 0, 1);
        // The first one is DRY at 3, ahead of the hour at which the painter is free.
        order("fresh 2;sticky 1;rate 0 47 1;bench 1;bench 1;bench 1;bench 1;bench 1;bench 1;", 0, 5 + 1 + 2, 0, 1, 2, 3, 4, 5);
        order("fresh 2;sticky 1;rate 0 47 1;bench 1;bench 1;bench 1;bench 1;", 0, 3 + 1 + 2, 0, 1, 2, 3);
        order("fresh 2;sticky 1;rate 0 47 1;bench 1;bench 1;bench 1;", 0, 3 + 1 + 2, 0, 1, 2);
    }

    private void rowsOfBenches() {
        term(3, "all DRY at first, RATES of hours behind 47 being that of hour 47:");
        order("fresh 60;rate 0 46 0;rate 47 47 1;bench 1;bench 1;painted 0 0;painted 1 0;", 0, 47 + 60 + 1 + 60, 0, 1);
        order("fresh 9;rate 0 46 0;rate 47 47 9;bench 1;", 47, 49, 0);
        order("fresh 9;rate 0 46 0;rate 47 47 4;bench 1;", 47, 51, 0);
        order("fresh 9;rate 0 46 9;rate 47 47 0;bench 1;", 47, NONE, NONE);
        order("fresh 60;rate 0 47 1;bench 9;bench 9;bench 9;bench 9;bench 9;bench 9;", 47, 47 + 3 + 60 + 3 + 60, 0, 1, 2, 3, 4, 5);
        term(3, "the first row of BENCHES by which all are DRY soonest; that hour.");
        order(SLOW + "bench 9;bench 3;bench 1;", 0, 12, 1, 0, 2);
        order(SLOW + "bench 3;bench 9;bench 1;", 0, 12, 0, 1, 2);
        order(SLOW + "bench 3;bench 1;bench 9;", 0, 12, 0, 2, 1);
        // Hours of painting 3, 2, 1, 3, 1, 2: where the painter needs not wait for the first one all rows are alike.
        order(SLOW + "bench 9;bench 4;bench 1;bench 7;bench 2;bench 5;", 0, 12 + 5, 0, 1, 2, 3, 4, 5);
        order("fresh 10;rate 0 47 1;bench 9;bench 4;bench 1;bench 7;bench 2;bench 5;", 0, 1 + 10 + 1 + 10, 2, 0, 1, 3, 5, 4);
        order("fresh 4;sticky 0;rate 0 47 1;rate 1 2 2;bench 9;bench 1;", 0, 10, 1, 0);
        order("fresh 4;sticky 0;rate 0 47 1;rate 1 2 2;bench 1;bench 9;", 0, 10, 0, 1);
        term(3, "(One BENCH alone: it is begun at once. A row by which not all are DRY by hour 400 can't be.)");
        order(SLOW + "bench 1;", 0, 6, 0);
        order(SLOW + "bench 1;", 47, 53, 0);
        WetPaint behind = told(SLOW + "bench 9;bench 3;bench 1;", "bench 1;");
        due("the first of three", behind.order(0, 0, 0), 1);
        due("the one BENCH behind them", behind.order(1, 0, 0), 0);
        order("rate 0 47 0;bench 1;", 0, NONE, NONE);
        order("rate 0 47 0;bench 1;bench 1;", 0, NONE, NONE, NONE);
        String ends = SLOW + "rate 47 47 0;";
        order(ends + "bench 1;", 41, 47, 0);
        order(ends + "bench 1;", 42, NONE, NONE);
        order(ends + "bench 1;bench 1;", 35, 47, 0, 1);
        order(ends + "bench 1;bench 1;", 36, NONE, NONE, NONE);
        order(ends + "bench 9;bench 3;bench 1;", 35, 47, 1, 0, 2);
        order(ends + "bench 9;bench 3;bench 1;", 36, NONE, NONE, NONE, NONE);
    }

    private void hang() {
        promise(12, "HANG of a BENCH: HARM, or (hour) the hour.");
        WetPaint x = told("", PAINT + "card 0 0 20;comer card 6 0 1 9 1;comer card 11 0 4 9 1;comer sheep 30 1 3 9 1;");
        for (int twice = 0; twice < 2; twice++) {
            due("HARM of 0", x.hang(1, 0, false), 3);
            due("hour of 0", x.hang(1, 0, true), 6);
            due("HARM of 1", x.hang(1, 1, false), 4 + 3);
            due("hour of 1", x.hang(1, 1, true), NONE);
        }
        due("the CARD stays as told", x.bench(1, 0, 3), 20);
        due("the DAY too", x.day(1, 0), 7);
        promise(12, "-2: there is none such (of either).");
        for (boolean hour : new boolean[] {false, true}) {
            outside("by BENCH", bench -> x.hang(1, bench, hour), NO_SUCH, 0, 1);
            outside("by PARK", park -> x.hang(park, 0, hour), NO_SUCH, 1, 1);
        }
    }

    private void rule() {
        promise(13, "RULE: HARM by a HABIT, or (NONE) the HABIT of the least.");
        WetPaint x = told("", PAINT + "pigeon 0 6;comer card 7 0 9 5 3;comer card 20 0 9 5 3;");
        for (int twice = 0; twice < 2; twice++) {
            each("RULE", habit -> x.rule(1, habit), habit -> habit < NONE || habit > 4 ? NO_SUCH : new int[] {2, 5, 3, 0, 9, 5}[habit + 1]);
        }
        due("RULE without COMERS", x.rule(0, NONE), 0);
        due("HARM without COMERS", x.rule(0, 4), 0);
        due("HABITS stay as told", x.told(1, 2, 0, 0), 0);
        due("the DAY too", x.day(1, 0), 5);
        promise(13, "-2: there is none such (of either).");
        outside("by HABIT", habit -> x.rule(1, habit), NO_SUCH, NONE, 4);
        outside("by PARK", park -> x.rule(park, 0), NO_SUCH, 0, 1);
        outside("of the least by PARK", park -> x.rule(park, NONE), NO_SUCH, 0, 1);
    }

    private void card() {
        promise(14, "Of a BENCH, what 0: SAYS (as wet() 2), 1: LATE, 2: LONGEST.");
        WetPaint x = told("", PAINT + "comer card 5 0 1 1 1;comer card 20 1 1 1 1;");
        row("card 0", what -> x.card(1, 0, what), NONE, 11, 1, 37);
        row("card 1", what -> x.card(1, 1, what), NONE, 0, 0, 48);
        due("as wet() 2", x.wet(1, 0, 0, 2), 11);
        promise(14, "NONE: there is none such (of either), or for another what.");
        for (int what = 0; what < 3; what++) {
            int asked = what;
            outside("by BENCH", bench -> x.card(1, bench, asked), NONE, 0, 1);
            outside("by PARK", park -> x.card(park, 0, asked), NONE, 1, 1);
        }
        due("what 3", x.card(1, 0, 3), NONE);
        due("what -1", x.card(1, 0, -1), NONE);
    }

    private void days() {
        promise(15, "DAYS, 1 .. 30, what 0: HARM of the last one, 1: on how many days unlike, 2, 3: TRUE's share, N, D.");
        row("one day", what -> told("", ODD).days(1, 1, what), NONE, 0, 0, 0, 1);
        row("two days", what -> told("", ODD).days(1, 2, what), NONE, 5, 1, 1, 3);
        row("29 days", what -> told("", ODD).days(1, 29, what), NONE, 0, 28, 14, 43);
        row("30 days", what -> told("", ODD).days(1, 30, what), NONE, 5, 29, 1, 3);
        promise(15, "NONE: there is none such, other days, or for another what.");
        WetPaint x = told("", ODD);
        for (int what = 0; what < 4; what++) {
            int asked = what;
            outside("by days", days -> x.days(1, days, asked), NONE, 1, 30);
            outside("by PARK", park -> x.days(park, 2, asked), NONE, 0, 1);
        }
        due("what 4", x.days(1, 2, 4), NONE);
        due("what -1", x.days(1, 2, -1), NONE);
    }

    private void order() {
        promise(16, "ORDER from an hour, 0 .. 47, on: the hour (k NONE), the k-th BENCH.");
        WetPaint x = told("", SLOW + "bench 9;bench 3;bench 1;painted 0 3;");
        int[] row = {1, 0, 2};
        for (int hour : new int[] {0, 1, 46, 47}) {
            due("the hour", x.order(1, hour, NONE), hour + 12);
            for (int k = 0; k < 3; k++) {
                due("BENCH " + k, x.order(1, hour, k), row[k]);
            }
        }
        due("PAINTED stays as told", x.bench(1, 0, 1), 3);
        promise(16, "NONE: no row can be;");
        WetPaint y = told("rate 0 47 0;bench 1;bench 2;");
        for (int k = NONE; k < 2; k++) {
            due("no row, " + k, y.order(0, 0, k), NONE);
        }
        promise(16, "-2: there are no BENCHES, there is none such (of any).");
        due("no BENCHES", x.order(0, 0, NONE), NO_SUCH);
        due("no BENCHES, no BENCH 0", x.order(0, 0, 0), NO_SUCH);
        due("no row can be, but there is no BENCH 2 either", y.order(0, 0, 2), NO_SUCH);
        outside("by hour", hour -> x.order(1, hour, NONE), NO_SUCH, 0, 47);
        outside("by hour, BENCH 0", hour -> x.order(1, hour, 0), NO_SUCH, 0, 47);
        outside("by k", k -> x.order(1, 0, k), NO_SUCH, NONE, 2);
        outside("by PARK", park -> x.order(park, 0, NONE), NO_SUCH, 1, 1);
        outside("by PARK, BENCH 0", park -> x.order(park, 0, 0), NO_SUCH, 1, 1);
    }
}
