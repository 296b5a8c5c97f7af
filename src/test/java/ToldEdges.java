/** What there is: term 1 to its texts, promises 6 to 8, 17 and 22. */
final class ToldEdges extends Edges {
    ToldEdges(Check check, Doc doc) {
        super(check, doc);
    }

    @Override
    void run() {
        hours();
        ratesAndPaint();
        benches();
        rowsOfPark();
        otherSorts();
        limits();
        park();
        bench();
        maybesPigeonsComers();
        sight();
        plan();
        close();
    }

    private void hours() {
        term(1, "Hours are 0 .. 47.");
        String[] lines = {"rate # 47 0;", "rate 0 # 0;", "bench 1;painted 0 #;", "bench 1;card 0 # 47;", "bench 1;card 0 0 #;",
            "bench 1;maybe 0 # 1;", "bench 1;pigeon 0 #;", "bench 1;comer card # 0 0 0 0;"};
        for (String line : lines) {
            numbers(0, line, 0, 47);
        }
        for (String kind : new String[] {"deep", "faint", "dust"}) {
            numbers(1, kind + " 0 #;", 0, 47);
        }
        numbers(3, "halves 0 # 0;", 0, 47);
        numbers(3, "halves 0 0 #;", 0, 47);
    }

    private void ratesAndPaint() {
        term(1, "A PARK has a RATE for each hour, 0 .. 9 (2 at first),");
        numbers(0, "rate 0 47 #;", 0, 9);
        WetPaint plain = told("");
        for (int h = 0; h < 48; h++) {
            due("plain rate of " + h, plain.park(0, 10 + h), 2);
            WetPaint one = told("rate " + h + " " + h + " 9;");
            for (int other = 0; other < 48; other++) {
                due("rate of " + other + " beside " + h, one.park(0, 10 + other), other == h ? 9 : 2);
            }
        }
        term(1, "FRESH, 1 .. 60 (20),");
        due("plain FRESH", plain.park(0, 0), 20);
        numbers(0, "sticky 0;fresh #;", 1, 60);
        term(1, "STICKY, 0 .. 60 (8),");
        due("plain STICKY", plain.park(0, 1), 8);
        numbers(0, "fresh 60;sticky #;", 0, 60);
        term(1, "BELIEF, 0 .. 100 (0);");
        due("plain BELIEF", plain.park(0, 2), 0);
        numbers(0, "belief #;", 0, 100);
        // Each is told alone: the others stay as they were.
        String[] lines = {"fresh 33;", "sticky 4;", "belief 55;"};
        int[] values = {33, 4, 55};
        int[] first = {20, 8, 0};
        for (int line = 0; line < 3; line++) {
            WetPaint alone = told(lines[line]);
            WetPaint last = told(lines[(line + 1) % 3] + lines[(line + 2) % 3] + lines[line]);
            for (int what = 0; what < 3; what++) {
                due("park " + what + " of " + lines[line], alone.park(0, what), what == line ? values[what] : first[what]);
                due("park " + what + ", the last one " + lines[line], last.park(0, what), values[what]);
            }
        }
    }

    private void benches() {
        term(1, "BENCHES, at most 6, from 0 on: SLATS, 1 .. 9;");
        numbers(0, "bench #;", 1, 9);
        StringBuilder text = new StringBuilder();
        for (int b = 0; b < 6; b++) {
            due("benches", told(text.toString()).park(0, 3), b);
            text.append("bench ").append(9 - b).append(';');
        }
        WetPaint six = fine(0, text.toString());
        due("six benches", six.park(0, 3), 6);
        for (int b = 0; b < 6; b++) {
            due("SLATS of " + b, six.bench(0, b, 0), 9 - b);
        }
        marked(0, text + "^bench 1;", 3);
        term(1, "PAINTED, an hour, or never (at first);");
        due("never at first", six.bench(0, 5, 1), NONE);
        due("of hour 0, which is not never", told("bench 1;painted 0 0;").bench(0, 0, 1), 0);
        due("of hour 47", told("bench 1;painted 0 47;").bench(0, 0, 1), 47);
        term(1, "a CARD, from an hour up to one, or none (at first);");
        due("none at first", six.bench(0, 5, 2), NONE);
        due("none at first, to", six.bench(0, 5, 3), NONE);
        WetPaint card = told("bench 1;bench 1;card 0 0 0;card 1 47 47;");
        for (int what = 2; what < 4; what++) {
            due("of hour 0, which is not none", card.bench(0, 0, what), 0);
            due("of hour 47", card.bench(0, 1, what), 47);
        }
    }

    private void rowsOfPark() {
        term(1, "MAYBES, at most 8, from 0 on: a BENCH, an hour, a weight, 1 .. 9;");
        numbers(0, "bench 1;maybe 0 0 #;", 1, 9);
        asMany(0, "bench 1;", "maybe 0 0 1;", 8, 4);
        term(1, "PIGEONS, at most 4: a BENCH, an hour;");
        asMany(0, "bench 1;", "pigeon 0 0;", 4, 5);
        term(1, "COMERS, at most 14, from 0 on: a HABIT, an hour, a BENCH, WORTH, STAIN, TOUCH, 0 .. 9 each.");
        numbers(0, "bench 1;comer card 0 0 # 0 0;", 0, 9);
        numbers(0, "bench 1;comer card 0 0 0 # 0;", 0, 9);
        numbers(0, "bench 1;comer card 0 0 0 0 #;", 0, 9);
        asMany(0, "bench 1;", "comer best 0 0 0 0 0;", 14, 6);
        term(1, "HABITS: 0 CARD, 1 TOUCH, 2 PRINT, 3 SHEEP, 4 BEST.");
        WetPaint x = told("bench 1;comer best 0 0 0 0 0;comer sheep 0 0 0 0 0;comer print 0 0 0 0 0;comer touch 0 0 0 0 0;comer card 0 0 0 0 0;");
        for (int k = 0; k < 5; k++) {
            due("HABIT of COMER " + k, x.told(0, 2, k, 0), 4 - k);
        }
    }

    /** Up to a limit of a park's rows there may be, as park() counts them; one more is a FAULT 3. */
    private void asMany(int sort, String ahead, String line, int limit, int what) {
        for (int n = 0; n <= limit; n++) {
            due(n + " of " + line, fine(sort, ahead + line.repeat(n)).park(0, what), n);
        }
        marked(sort, ahead + line.repeat(limit) + "^" + line, 3);
    }

    private void otherSorts() {
        term(1, "A SIGHT has PRINTS seen, at most 10, from 0 on: deep (2), faint (1) or dust (0), a BENCH, 0 .. 5, an hour.");
        for (String kind : new String[] {"deep", "faint", "dust"}) {
            numbers(1, kind + " # 0;", 0, 5);
            for (int n = 0; n <= 10; n++) {
                due("prints", fine(1, (kind + " 5 47;").repeat(n)).sight(0, NONE, 0), n);
            }
            marked(1, "deep 0 0;faint 0 0;".repeat(5) + "^" + kind + " 0 0;", 3);
        }
        term(1, "ALARMS are a row of at most 8, from 0 on: TRUE, 0 .. 20, OF, 1 .. 20, not below TRUE, LOSS, TOIL, 0 .. 99 each.");
        for (int n = 0; n <= 8; n++) {
            due("alarms", fine(2, "alarm 1 1 1 1;".repeat(n)).alarm(0, NONE, 0), n);
        }
        marked(2, "alarm 1 1 1 1;".repeat(8) + "^alarm 1 1 1 1;", 3);
        numbers(2, "alarm # 20 0 0;", 0, 20);
        numbers(2, "alarm 0 # 0 0;", 1, 20);
        numbers(2, "alarm 7 # 0 0;", 7, 20);
        numbers(2, "alarm 20 # 0 0;", 20, 20);
        numbers(2, "alarm 1 1 # 0;", 0, 99);
        numbers(2, "alarm 1 1 0 #;", 0, 99);
        term(1, "A PLAN has HALVES, at most 6, from 0 on: a BENCH, 0 .. 5, two hours.");
        numbers(3, "halves # 0 0;", 0, 5);
        for (int n = 0; n <= 6; n++) {
            due("halves", fine(3, "halves 5 47 0;".repeat(n)).plan(0, NONE, 0), n);
        }
        marked(3, "halves 0 0 0;".repeat(6) + "^halves 0 0 0;", 3);
    }

    private void limits() {
        term(1, "PARKS, at most 2 (sort 0), SIGHTS, at most 2 (1), ALARMS, at most 2 (2), PLANS, at most 2 (3), from 0 on.");
        for (int sort = 0; sort < 4; sort++) {
            WetPaint x = new WetPaint();
            due("first of " + sort, x.text(sort, NONE), 0);
            due("second of " + sort, x.text(sort, NONE), 1);
            due("third of " + sort, x.text(sort, NONE), NO_SUCH);
            for (int other = 0; other < 4; other++) {
                due("count of " + other, x.count(other), other == sort ? 2 : 0);
            }
        }
    }

    private void park() {
        promise(6, "Of a PARK, what 0: FRESH, 1: STICKY, 2: BELIEF, 3: BENCHES, 4: MAYBES, 5: PIGEONS, 6: COMERS, 10 + h: RATE of an hour, 0 .. 47.");
        String text = "fresh 60;sticky 59;belief 100;bench 1;bench 1;bench 1;maybe 0 0 1;maybe 0 0 1;pigeon 0 0;comer card 0 0 0 0 0;"
            + "rate 0 0 9;rate 1 46 4;rate 47 47 7;";
        int[] due = new int[58];
        java.util.Arrays.fill(due, 4);
        System.arraycopy(new int[] {60, 59, 100, 3, 2, 1, 1, NONE, NONE, NONE, 9}, 0, due, 0, 11);
        due[57] = 7;
        WetPaint x = told("", text);
        row("park 1", what -> x.park(1, what), NONE, due);
        promise(6, "NONE: there is none such, or for another what.");
        for (int what : new int[] {7, 8, 9, 58, 59, -1, -2, Integer.MIN_VALUE, Integer.MAX_VALUE}) {
            due("park what " + what, x.park(1, what), NONE);
        }
        for (int what : new int[] {0, 3, 10, 57}) {
            outside("park by number, what " + what, park -> x.park(park, what), NONE, 0, 1);
        }
        due("park 1 of one", told("").park(1, 0), NONE);
        due("park 0 of none", new WetPaint().park(0, 0), NONE);
    }

    private void bench() {
        promise(7, "Of a BENCH, what 0: SLATS, 1: PAINTED, 2, 3: the CARD's hours (1, 2, 3: NONE: none).");
        WetPaint x = told("bench 9;bench 8;painted 1 5;card 0 6 7;", "bench 3;painted 0 0;card 0 0 0;");
        row("bench 0", what -> x.bench(0, 0, what), NO_SUCH, 9, NONE, 6, 7);
        row("bench 1", what -> x.bench(0, 1, what), NO_SUCH, 8, 5, NONE, NONE);
        row("bench 0 of park 1", what -> x.bench(1, 0, what), NO_SUCH, 3, 0, 0, 0);
        promise(7, "-2: there is none such (of either), or for another what.");
        for (int what = 0; what < 4; what++) {
            int asked = what;
            outside("bench by number, what " + what, bench -> x.bench(0, bench, asked), NO_SUCH, 0, 1);
            outside("bench by park, what " + what, park -> x.bench(park, 0, asked), NO_SUCH, 0, 1);
        }
        due("what 4", x.bench(0, 0, 4), NO_SUCH);
        due("what -1", x.bench(0, 0, -1), NO_SUCH);
        // Where a bench was in an earlier text there is none now.
        WetPaint y = told("bench 1;bench 1;painted 1 3;");
        due("with one bench less", Check.text(y, 0, 0, "bench 1;"), 0);
        due("bench 1 no more", y.bench(0, 1, 0), NO_SUCH);
        due("with a bench more again", Check.text(y, 0, 0, "bench 1;bench 2;"), 0);
        due("which is not PAINTED", y.bench(0, 1, 1), NONE);
    }

    private void maybesPigeonsComers() {
        promise(8, "Of MAYBE k (sort 0), what 0: BENCH, 1: hour, 2: weight;");
        WetPaint x = told("", "bench 1;bench 1;maybe 1 46 9;maybe 0 2 1;pigeon 1 45;pigeon 0 4;comer sheep 40 1 2 3 4;comer best 9 0 8 7 6;");
        row("maybe 0", what -> x.told(1, 0, 0, what), NONE, 1, 46, 9);
        row("maybe 1", what -> x.told(1, 0, 1, what), NONE, 0, 2, 1);
        promise(8, "of PIGEON k (1), what 0: BENCH, 1: hour;");
        row("pigeon 0", what -> x.told(1, 1, 0, what), NONE, 1, 45);
        row("pigeon 1", what -> x.told(1, 1, 1, what), NONE, 0, 4);
        promise(8, "of COMER k (2), what 0: HABIT, 1: hour, 2: BENCH, 3: WORTH, 4: STAIN, 5: TOUCH.");
        row("comer 0", what -> x.told(1, 2, 0, what), NONE, 3, 40, 1, 2, 3, 4);
        row("comer 1", what -> x.told(1, 2, 1, what), NONE, 4, 9, 0, 8, 7, 6);
        promise(8, "NONE: there is none such (of any), or for another what.");
        WetPaint y = told("", "bench 1;bench 1;maybe 1 46 9;maybe 0 2 1;pigeon 1 45;pigeon 0 4;comer sheep 40 1 2 3 4;comer best 9 0 8 7 6;");
        int[] whats = {3, 2, 6};
        for (int sort = 0; sort < 3; sort++) {
            int asked = sort;
            outside("rows of sort " + sort, k -> y.told(1, asked, k, 0), NONE, 0, 1);
            outside("park of sort " + sort, park -> y.told(park, asked, 0, 1), NONE, 1, 1);
            outside("what of sort " + sort, what -> y.told(1, asked, 1, what), NONE, 0, whats[sort] - 1);
        }
        outside("sort", sort -> y.told(1, sort, 0, 0), NONE, 0, 2);
    }

    private void sight() {
        promise(17, "How many PRINTS (k NONE, what 0); of PRINT k, what 0: 2 deep, 1 faint, 0 dust, 1: BENCH, 2: hour.");
        WetPaint x = with(new WetPaint(), 1, "", "deep 5 47;faint 4 46;dust 3 45;");
        due("no prints", x.sight(0, NONE, 0), 0);
        due("three prints", x.sight(1, NONE, 0), 3);
        for (int k = 0; k < 3; k++) {
            int asked = k;
            row("print " + k, what -> x.sight(1, asked, what), NO_SUCH, 2 - k, 5 - k, 47 - k);
        }
        promise(17, "-2: there is none such (of either), or for another what.");
        WetPaint y = with(new WetPaint(), 1, "", "deep 5 47;faint 4 46;dust 3 45;");
        outside("how many, what", what -> y.sight(1, NONE, what), NO_SUCH, 0, 0);
        outside("by print", k -> y.sight(1, k, 0), NO_SUCH, NONE, 2);
        due("print 0 of none", y.sight(0, 0, 0), NO_SUCH);
        outside("by sight", sight -> y.sight(sight, NONE, 0), NO_SUCH, 0, 1);
        outside("by sight, print 0", sight -> y.sight(sight, 0, 0), NO_SUCH, 0, 1);
        due("sight 1 of one", with(new WetPaint(), 1, "deep 0 0;").sight(1, NONE, 0), NO_SUCH);
    }

    private void plan() {
        promise(22, "How many HALVES (k NONE, what 0); of HALVES k, what 0: BENCH, 1, 2: its hours.");
        WetPaint x = with(new WetPaint(), 3, "", "halves 5 47 0;halves 1 2 3;");
        due("no halves", x.plan(0, NONE, 0), 0);
        due("two halves", x.plan(1, NONE, 0), 2);
        row("halves 0", what -> x.plan(1, 0, what), NO_SUCH, 5, 47, 0);
        row("halves 1", what -> x.plan(1, 1, what), NO_SUCH, 1, 2, 3);
        promise(22, "-2: there is none such (of either), or for another what.");
        outside("how many, what", what -> x.plan(1, NONE, what), NO_SUCH, 0, 0);
        outside("by halves", k -> x.plan(1, k, 0), NO_SUCH, NONE, 1);
        due("halves 0 of none", x.plan(0, 0, 0), NO_SUCH);
        outside("by plan", plan -> x.plan(plan, NONE, 0), NO_SUCH, 0, 1);
        outside("by plan, halves 0", plan -> x.plan(plan, 0, 0), NO_SUCH, 0, 1);
        due("plan 1 of one", with(new WetPaint(), 3, "halves 0 0 0;").plan(1, NONE, 0), NO_SUCH);
    }
}
