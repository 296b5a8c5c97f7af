/** Promises 9 to 16, 18 to 21, 23 to 27 by cases worked out by hand. */
public final class DaysTest {
    private static final Check check = new Check();
    private static final int NONE = WetPaint.NONE;
    private static final int NO_WORTH = -1000000;
    private static final String PARK = "fresh 10;sticky 4;rate 0 47 2;rate 3 4 0;bench 3;bench 6;painted 0 1;card 0 1 6;pigeon 0 2;"
        + "comer card 2 0 5 4 2;comer touch 2 0 5 4 2;comer print 3 0 6 8 2;comer best 7 0 3 7 1;comer sheep 8 0 4 5 1;"
        + "comer touch 9 0 6 3 3;comer sheep 9 1 2 9 9;comer print 1 1 7 3 3;belief 50;";

    public static void main(String[] args) {
        wet();
        did();
        habits();
        belief();
        day();
        hangAndRule();
        days();
        order();
        sights();
        halves();
        drawn();
        otherwise();
        nothingThere();
        check.end("DaysTest");
    }

    private static void wet() {
        WetPaint x = Check.of(PARK, "rate 0 47 0;bench 1;painted 0 3;");
        int[] wetness = {0, 10, 8, 6, 6, 6, 4, 2, 0, 0};
        int[] stage = {0, 2, 2, 2, 2, 2, 1, 1, 0, 0};
        for (int h = 0; h < 10; h++) {
            check.due("wetness at " + h, x.wet(0, 0, h, 0), wetness[h]);
            check.due("stage at " + h, x.wet(0, 0, h, 1), stage[h]);
            check.due("dries", x.wet(0, 0, h, 2), 8);
            check.due("wetness of never", x.wet(0, 1, h, 0), 0);
            check.due("stage of never", x.wet(0, 1, h, 1), 0);
            check.due("never dries", x.wet(0, 1, h, 2), 0);
        }
        check.due("wetness at 47", x.wet(1, 0, 47, 0), 20);
        check.due("wetness ahead of paint", x.wet(1, 0, 2, 0), 0);
        check.due("dries not till 47", x.wet(1, 0, 0, 2), 48);
        check.due("dries at 47", x.wet(0, 0, 47, 2), 8);
        for (int what = 0; what < 3; what++) {
            for (int hour : new int[] {-1, 48, 99, Integer.MIN_VALUE, Integer.MAX_VALUE}) {
                check.due("wet at " + hour + ", what " + what, x.wet(0, 0, hour, what), NONE);
                check.due("wet of never at " + hour + ", what " + what, x.wet(0, 1, hour, what), NONE);
            }
        }
        check.due("says", x.card(0, 0, 0), 8);
        check.due("bench 2", x.wet(0, 2, 0, 0), NONE);
        check.due("park 2", x.wet(2, 0, 0, 2), NONE);
        check.due("what 3", x.wet(0, 0, 0, 3), NONE);
        check.due("what -1", x.wet(0, 0, 0, -1), NONE);
        check.due("says of never", x.card(0, 1, 0), 0);
        check.due("says not till 47", x.card(1, 0, 0), 48);
        check.due("late", x.card(0, 0, 1), 4);
        check.due("late at bench 1", x.card(0, 1, 1), 0);
        check.due("longest", x.card(0, 0, 2), 40);
        check.due("longest of never", x.card(0, 1, 2), 48);
        check.due("longest ahead of paint", x.card(1, 0, 2), 3);
        check.due("card what 3", x.card(0, 0, 3), NONE);
        check.due("card of no bench", x.card(0, 2, 0), NONE);
        check.due("card of no park", x.card(-1, 0, 0), NONE);
    }

    private static void did() {
        WetPaint x = Check.of(PARK);
        int[][] due = {
            {0, 2, 0, 0, 1, 1}, {1, 2, 2, 0, 1, 1}, {0, 2, 0, 0, 1, 1}, {0, 1, 0, 0, 0, 1},
            {0, 0, 0, 4, 0, 1}, {2, 0, 0, 0, 0, 1}, {3, 0, 0, 0, 0, 1}, {3, 0, 0, 0, 0, 1},
        };
        for (int k = 0; k < due.length; k++) {
            for (int what = 0; what < 6; what++) {
                check.due("did " + k + " " + what, x.did(0, k, what), due[k][what]);
            }
            check.due("did what 6", x.did(0, k, 6), NONE);
            check.due("did what -1", x.did(0, k, -1), NONE);
        }
        check.due("did of no comer", x.did(0, 8, 0), NONE);
        check.due("did of comer -1", x.did(0, -1, 0), NONE);
        check.due("did of no park", x.did(1, 0, 0), NONE);
    }

    /** What the last COMER of a park of one BENCH, PAINTED at 5, WET 5 to 8, STICKY 9, 10, DRY from 11 on, did. */
    private static void last(String comers, int... due) {
        WetPaint x = Check.of("fresh 12;sticky 4;bench 4;painted 0 5;" + comers);
        int k = x.park(0, 6) - 1;
        for (int what = 0; what < due.length; what++) {
            check.due("did " + what + " of " + comers, x.did(0, k, what), due[what]);
        }
    }

    private static void habits() {
        last("comer card 5 0 1 9 1;", 3, 2, 9, 0, 0, 1);
        last("comer card 9 0 1 9 1;", 3, 1, 4, 0, 0, 1);
        last("comer card 11 0 1 9 1;", 3, 0, 0, 0, 0, 1);
        last("comer card 4 0 1 9 1;", 3, 0, 0, 0, 0, 1);
        last("card 0 9 9;comer card 9 0 1 9 1;", 0, 1, 0, 0, 1, 1);
        last("card 0 9 9;comer card 10 0 1 9 1;", 3, 1, 4, 0, 0, 1);
        last("card 0 9 9;comer card 8 0 1 9 1;", 3, 2, 9, 0, 0, 1);
        last("card 0 11 12;comer card 12 0 7 9 1;", 0, 0, 0, 7, 1, 1);
        last("comer touch 8 0 1 9 3;", 1, 2, 3, 0, 0, 1);
        last("comer touch 10 0 1 9 3;", 1, 1, 1, 0, 0, 1);
        last("comer touch 11 0 1 9 3;", 2, 0, 0, 0, 0, 1);
        // PRINT: the latest one counts, for 3 hours.
        last("comer print 8 0 1 9 3;", 3, 2, 9, 0, 0, 1);
        last("pigeon 0 5;comer print 8 0 1 9 3;", 0, 2, 0, 0, 0, 1);
        last("pigeon 0 5;comer print 9 0 1 9 3;", 3, 1, 4, 0, 0, 1);
        last("pigeon 0 8;comer print 8 0 1 9 3;", 0, 2, 0, 0, 0, 1);
        last("pigeon 0 8;comer print 11 0 6 9 3;", 0, 0, 0, 6, 0, 1);
        last("pigeon 0 8;comer print 12 0 6 9 3;", 3, 0, 0, 0, 0, 1);
        last("pigeon 0 8;pigeon 0 9;comer print 10 0 1 9 3;", 1, 1, 1, 0, 0, 1);
        last("pigeon 0 10;comer print 13 0 1 9 3;", 2, 0, 0, 0, 0, 1);
        last("pigeon 0 10;comer print 14 0 1 9 3;", 3, 0, 0, 0, 0, 1);
        last("pigeon 0 4;comer print 5 0 1 9 3;", 3, 2, 9, 0, 0, 1);
        last("comer touch 8 0 1 1 1;comer print 8 0 1 9 3;", 0, 2, 0, 0, 0, 1);
        last("bench 1;pigeon 1 8;comer print 8 0 1 9 3;", 3, 2, 9, 0, 0, 1);
        // SHEEP: who SAT ahead of the paint does not count; a touch is no sitting.
        last("comer sheep 12 0 5 9 3;", 0, 0, 0, 5, 0, 1);
        last("comer card 4 0 1 1 1;comer sheep 4 0 5 9 3;", 0, 0, 0, 5, 0, 1);
        last("comer card 4 0 1 1 1;comer sheep 6 0 5 9 3;", 0, 2, 0, 0, 0, 1);
        last("comer card 5 0 1 1 1;comer sheep 6 0 5 9 3;", 3, 2, 9, 0, 0, 1);
        last("comer touch 6 0 1 1 1;comer sheep 12 0 5 9 3;", 0, 0, 0, 5, 0, 1);
        last("comer touch 11 0 1 1 1;comer sheep 11 0 5 9 3;", 3, 0, 0, 0, 0, 1);
        last("bench 1;comer card 3 1 1 1 1;comer sheep 4 1 5 9 3;", 3, 0, 0, 0, 0, 1);
        // BEST: more than it costs, not as much.
        last("comer best 8 0 9 9 3;", 0, 2, 0, 0, 0, 1);
        last("comer best 8 0 9 8 3;", 3, 2, 8, 0, 0, 1);
        last("comer best 10 0 4 9 3;", 0, 1, 0, 0, 0, 1);
        last("comer best 10 0 5 9 3;", 3, 1, 4, 0, 0, 1);
        last("comer best 20 0 0 0 0;", 0, 0, 0, 0, 0, 1);
        last("comer best 20 0 1 9 9;", 3, 0, 0, 0, 0, 1);
        // By hours, of one hour by numbers: the later one of the text may come earlier.
        last("comer sheep 12 0 5 9 3;comer card 11 0 1 1 1;", 3, 0, 0, 0, 0, 1);
        WetPaint x = Check.of("bench 1;comer sheep 9 0 5 1 1;comer card 8 0 1 1 1;comer sheep 7 0 2 1 1;comer sheep 8 0 2 1 1;");
        int[] due = {3, 3, 0, 3};
        for (int k = 0; k < 4; k++) {
            check.due("by hours " + k, x.did(0, k, 0), due[k]);
        }
    }

    private static void belief() {
        // Two found it TRUE, two not: a half of BELIEF is still believed, a bit more is not.
        String comers = "bench 4;painted 0 0;card 0 0 47;comer touch 0 0 1 1 1;comer touch 1 0 1 1 1;comer touch 20 0 1 1 1;"
            + "comer touch 21 0 1 1 1;comer card 22 0 3 1 1;";
        WetPaint x = Check.of(comers + "belief 50;", comers + "belief 51;");
        check.due("believes a half", x.did(0, 4, 5), 1);
        check.due("goes", x.did(0, 4, 0), 0);
        check.due("missed", x.did(0, 4, 3), 3);
        check.due("does not believe", x.did(1, 4, 5), 0);
        check.due("sits", x.did(1, 4, 0), 3);
        check.due("true ones", x.day(0, 6), 2);
        check.due("found out", x.day(0, 7), 4);
        check.due("found out by one more", x.day(1, 7), 5);
        // Where no card hangs nothing is found out; who has come so far counts alone.
        WetPaint y = Check.of("belief 100;bench 1;bench 1;card 0 5 6;comer card 4 0 1 1 1;comer card 5 1 1 1 1;comer touch 6 0 1 1 1;"
            + "comer card 6 0 1 1 1;comer card 7 1 1 1 1;");
        int[] believes = {1, 1, 1, 0, 0};
        for (int k = 0; k < 5; k++) {
            check.due("believes " + k, y.did(0, k, 5), believes[k]);
        }
        check.due("found out of two", y.day(0, 7), 2);
        check.due("none true", y.day(0, 6), 0);
    }

    private static void day() {
        WetPaint x = Check.of(PARK, "fresh 12;sticky 4;bench 4;bench 7;painted 0 5;painted 1 6;pigeon 0 5;pigeon 1 9;pigeon 1 10;"
            + "comer card 6 0 3 5 0;comer card 7 1 2 9 0;comer card 9 0 1 7 0;comer touch 10 0 9 9 9;");
        int[] due = {6, 15, 2, 0, 0, 3, 1, 1, NONE, NONE, 2, 0, NONE};
        int[] second = {5 + 9 + 3 + 4, 6, 4, 3, 11, 3, 0, 0, NONE, NONE, 2, 2, NONE};
        for (int what = 0; what < due.length; what++) {
            check.due("day " + what, x.day(0, what), due[what]);
            check.due("second day " + what, x.day(1, what), second[what]);
        }
        check.due("faint of bench 0", x.day(1, 20), 2);
        check.due("faint of bench 1", x.day(1, 21), 1);
        check.due("faint of bench 2", x.day(1, 22), NONE);
        check.due("day what 19", x.day(1, 19), NONE);
        check.due("day what 30", x.day(1, 30), NONE);
        check.due("day what -1", x.day(1, -1), NONE);
        check.due("day of no park", x.day(2, 0), NONE);
    }

    private static void hangAndRule() {
        // STICKY at 12, DRY at 15: the first one's stain costs 4, the second one misses 4 if the card still hangs.
        WetPaint x = Check.of("bench 1;bench 2;painted 0 5;comer card 12 0 1 9 1;comer card 16 0 4 9 1;",
            "bench 1;comer card 12 0 1 9 1;");
        check.due("hang", x.hang(0, 0, false), 0);
        check.due("hang's hour", x.hang(0, 0, true), 12);
        check.due("hang of never", x.hang(1, 0, false), 0);
        check.due("none ahead of all", x.hang(1, 0, true), NONE);
        check.due("hang of no comers", x.hang(0, 1, false), 4);
        check.due("hang of bench 2", x.hang(0, 2, true), -2);
        check.due("hang of no park", x.hang(2, 0, false), -2);
        // From PAINTED on: a card can't hang ahead of it.
        WetPaint y = Check.of("bench 1;painted 0 9;card 0 0 47;comer card 3 0 5 1 1;comer card 9 0 5 8 1;");
        check.due("as told", y.day(0, 0), 5);
        check.due("hang behind paint", y.hang(0, 0, false), 0);
        check.due("hang's hour behind paint", y.hang(0, 0, true), 9);
        int[] harm = {4, 0, 4, 4, 0};
        for (int habit = 0; habit < 5; habit++) {
            check.due("rule " + habit, x.rule(0, habit), harm[habit]);
        }
        check.due("the habit of the least", x.rule(0, NONE), 1);
        check.due("of several the least", x.rule(1, NONE), 0);
        check.due("habit 5", x.rule(0, 5), -2);
        check.due("habit -2", x.rule(0, -2), -2);
        check.due("rule of no park", x.rule(2, 0), -2);
        check.due("told habits stay", x.told(0, 2, 0, 0), 0);
    }

    private static void days() {
        // Day 1: the card is believed (missed 3), then found out not to be TRUE; from then on nobody believes.
        WetPaint x = Check.of("belief 50;bench 1;card 0 0 47;comer card 1 0 3 1 1;comer touch 2 0 1 1 1;", "bench 1;");
        check.due("one day", x.days(0, 1, 0), 3);
        check.due("one day unlike", x.days(0, 1, 1), 0);
        check.due("two days", x.days(0, 2, 0), 0);
        check.due("two days unlike", x.days(0, 2, 1), 1);
        check.due("thirty days unlike", x.days(0, 30, 1), 1);
        check.due("share N", x.days(0, 30, 2), 0);
        check.due("share D", x.days(0, 30, 3), 1);
        check.due("none found out N", x.days(1, 30, 2), 1);
        check.due("none found out D", x.days(1, 30, 3), 1);
        WetPaint y = Check.of("bench 1;painted 0 0;card 0 0 47;comer touch 1 0 3 1 2;comer touch 2 0 3 1 2;comer touch 40 0 1 1 1;"
            + "comer touch 41 0 1 1 1;comer touch 42 0 1 1 1;comer touch 43 0 1 1 1;");
        check.due("least terms N", y.days(0, 7, 2), 1);
        check.due("least terms D", y.days(0, 7, 3), 3);
        check.due("days 0", x.days(0, 0, 0), NONE);
        check.due("days 31", x.days(0, 31, 0), NONE);
        check.due("days what 4", x.days(0, 1, 4), NONE);
        check.due("days what -1", x.days(0, 1, -1), NONE);
        check.due("days of no park", x.days(2, 1, 0), NONE);
    }

    private static void order() {
        WetPaint x = Check.of("bench 9;bench 3;bench 1;", "fresh 5;sticky 1;rate 0 47 1;bench 4;");
        // All rows: the last waits for the first, which dries 10 hours behind its end.
        check.due("order", x.order(0, 0, NONE), 22);
        int[] row = {1, 0, 2};
        for (int k = 0; k < 3; k++) {
            check.due("order " + k, x.order(0, 0, k), row[k]);
        }
        check.due("order k 3", x.order(0, 0, 3), -2);
        check.due("order k -2", x.order(0, 0, -2), -2);
        check.due("order hour 48", x.order(0, 48, NONE), -2);
        check.due("order hour -1", x.order(0, -1, NONE), -2);
        check.due("order of no park", x.order(2, 0, NONE), -2);
        // One bench alone: 47, two hours of painting, five of drying.
        check.due("one bench", x.order(1, 47, NONE), 54);
        check.due("one bench's row", x.order(1, 47, 0), 0);
        WetPaint y = Check.of("bench 1;rate 0 47 0;", "");
        check.due("no row can be", y.order(0, 0, NONE), NONE);
        check.due("no row's bench", y.order(0, 0, 0), NONE);
        check.due("none such goes ahead", y.order(0, 0, 1), -2);
        check.due("no benches", y.order(1, 0, NONE), -2);
        // Nothing dries ahead of hour 47; behind it, an hour takes 1 as that of hour 47 does.
        WetPaint z = Check.of("fresh 60;rate 0 46 0;rate 47 47 1;bench 1;bench 1;");
        check.due("two benches", z.order(0, 0, NONE), 47 + 60 + 1 + 60);
    }

    private static void sights() {
        WetPaint x = Check.of("fresh 10;sticky 4;bench 3;maybe 0 0 2;maybe 0 2 3;maybe 0 4 1;comer best 5 0 6 5 3;bench 1;painted 1 7;bench 1;");
        Check.text(x, 1, NONE, "deep 0 3;dust 0 9;");
        Check.text(x, 1, NONE, "deep 0 4;dust 2 3;faint 1 6;");
        int[] first = {1, 2, 2, 3, 9};
        int[] second = {2, 2, 4, 4, 5};
        for (int what = 0; what < 5; what++) {
            check.due("read " + what, x.read(0, 0, 0, what), first[what]);
            check.due("second read " + what, x.read(0, 1, 0, what), second[what]);
        }
        int[] told = {1, 7, 7, 1, 0};
        int[] never = {0, NONE, NONE, 1, 0};
        int[] unfit = {0, NONE, NONE, 0, NONE};
        for (int what = 0; what < 5; what++) {
            check.due("read of told " + what, x.read(0, 0, 1, what), told[what]);
            check.due("read of never " + what, x.read(0, 0, 2, what), never[what]);
            check.due("read of unfit " + what, x.read(0, 1, 1, what), unfit[what]);
        }
        check.due("tells of never, seen at 3", x.read(0, 1, 2, 4), 3);
        check.due("read what 5", x.read(0, 0, 0, 5), -2);
        check.due("read what -1", x.read(0, 0, 0, -1), -2);
        check.due("read of no bench", x.read(0, 0, 3, 0), -2);
        check.due("read of no sight", x.read(0, 2, 0, 0), -2);
        check.due("read of no park", x.read(1, 0, 0, 0), -2);
        int[] above = {0, 3, 1};
        int[] below = {1, 4, 4};
        for (int stage = 0; stage < 3; stage++) {
            check.due("likely N " + stage, x.likely(0, 1, 0, 5, stage, false), above[stage]);
            check.due("likely D " + stage, x.likely(0, 1, 0, 5, stage, true), below[stage]);
        }
        check.due("likely ahead of paint", x.likely(0, 1, 0, 1, 0, false), 1);
        check.due("likely, none fit", x.likely(0, 1, 1, 1, 0, false), NONE);
        check.due("likely stage 3", x.likely(0, 1, 0, 5, 3, false), NONE);
        check.due("likely stage -1", x.likely(0, 1, 0, 5, -1, false), NONE);
        check.due("likely hour 48", x.likely(0, 1, 0, 48, 0, true), NONE);
        check.due("likely of no bench", x.likely(0, 1, 3, 5, 0, true), NONE);
        check.due("likely of no sight", x.likely(0, 2, 0, 5, 0, true), NONE);
        check.due("likely of no park", x.likely(1, 0, 0, 5, 0, true), NONE);
        int[] act = {2, 13, 4, 0, -6, 13};
        int[] atNine = {1, 6, 1, 0, 24, 24};
        for (int what = 0; what < 6; what++) {
            check.due("act " + what, x.act(0, 1, 0, 5, 0, what), act[what]);
            check.due("act when dry " + what, x.act(0, 1, 0, 9, 0, what), atNine[what]);
        }
        check.due("act what 6", x.act(0, 1, 0, 5, 0, 6), NO_WORTH);
        check.due("act what -1", x.act(0, 1, 0, 5, 0, -1), NO_WORTH);
        check.due("act of no comer", x.act(0, 1, 0, 5, 1, 0), NO_WORTH);
        check.due("act at hour 48", x.act(0, 1, 0, 48, 0, 0), NO_WORTH);
        check.due("act, none fit", x.act(0, 1, 1, 5, 0, 0), NO_WORTH);
        // Each behind one that has an answer, so that nothing of that one is left over.
        check.due("act again", x.act(0, 1, 0, 5, 0, 0), 2);
        check.due("act of no bench", x.act(0, 1, 3, 5, 0, 0), NO_WORTH);
        check.due("act of no sight", x.act(0, 2, 0, 5, 0, 0), NO_WORTH);
        check.due("act of no park", x.act(1, 1, 0, 5, 0, 0), NO_WORTH);
        WetPaint y = Check.of("bench 1;painted 0 0;comer card 0 0 0 0 0;maybe 0 0 9;maybe 0 0 9;maybe 0 30 3;");
        Check.text(y, 1, NONE, "");
        check.due("unlike hours", y.read(0, 0, 0, 0), 2);
        check.due("of several the least act", y.act(0, 0, 0, 0, 0, 0), 0);
        check.due("worth of nothing, N", y.act(0, 0, 0, 0, 0, 1), 0);
        check.due("worth of nothing, D", y.act(0, 0, 0, 0, 0, 2), 1);
        check.due("least terms N", y.likely(0, 0, 0, 0, 2, false), 6);
        check.due("least terms D", y.likely(0, 0, 0, 0, 2, true), 7);
        // A print of an hour ahead of the paint can't be seen, not even dust.
        WetPaint z = Check.of("bench 1;painted 0 9;");
        Check.text(z, 1, NONE, "dust 0 8;");
        check.due("ahead of paint", z.read(0, 0, 0, 3), 0);
    }

    private static void halves() {
        WetPaint x = Check.of("fresh 10;sticky 4;bench 3;", "fresh 10;sticky 4;bench 3;bench 3;painted 1 1;");
        Check.text(x, 3, NONE, "halves 0 0 5;");
        Check.text(x, 3, NONE, "halves 0 0 0;halves 0 3 0;");
        check.due("open", x.halves(0, 0, 0, 0), 48);
        check.due("whole", x.halves(0, 0, 0, 1), 38);
        check.due("always", x.halves(0, 0, NONE, 0), 1);
        check.due("open of the second", x.halves(0, 1, 1, 0), 46);
        check.due("whole of the second", x.halves(0, 1, 1, 1), 40);
        check.due("not always", x.halves(0, 1, NONE, 0), 0);
        // As told last, the second half is DRY at hours 0 to 2; bench 1 is wet from 1 to 5 as PAINTED.
        check.due("not always by two", x.halves(1, 1, NONE, 0), 0);
        Check.text(x, 3, 1, "halves 1 0 0;");
        check.due("one not told of is dry", x.halves(1, 1, NONE, 0), 1);
        check.due("a bench that is not there", x.halves(0, 1, NONE, 0), NONE);
        check.due("nor by number", x.halves(0, 1, 0, 0), NONE);
        check.due("always what 1", x.halves(0, 0, NONE, 1), NONE);
        check.due("halves what 2", x.halves(0, 0, 0, 2), NONE);
        check.due("halves what -1", x.halves(0, 0, 0, -1), NONE);
        check.due("halves k 1", x.halves(0, 0, 1, 0), NONE);
        check.due("halves k -2", x.halves(0, 0, -2, 0), NONE);
        check.due("halves of no plan", x.halves(0, 2, 0, 0), NONE);
        check.due("halves of no park", x.halves(2, 0, 0, 0), NONE);
        WetPaint y = Check.of("");
        Check.text(y, 3, NONE, "");
        check.due("no bench is none that is dry", y.halves(0, 0, NONE, 0), 0);
    }

    private static void drawn() {
        String park = "bench 1;bench 2;bench 3;painted 0 3;painted 1 9;painted 2 20;card 1 9 30;pigeon 0 4;";
        WetPaint x = Check.of(park + "comer best 1 1 1 1 1;", "");
        int[] seeds = {0, 1, -1, 123456789, Integer.MIN_VALUE};
        for (int seed : seeds) {
            for (int n = 1; n <= 14; n++) {
                x = n % 7 == 1 ? Check.of(park + "comer best 1 1 1 1 1;", "") : x;
                WetPaint y = Check.of(park + drawnComers(seed, n, 3));
                for (int what = 0; what < 30; what++) {
                    check.due("drawn " + seed + " " + n + " " + what, x.drawn(0, seed, n, what), y.day(0, what));
                }
                for (int k = 0; k < 15; k++) {
                    check.due("drawn did " + k, x.drawn(0, seed, n, 30 + k), y.did(0, k, 0));
                }
            }
        }
        WetPaint one = Check.of("bench 5;painted 0 3;");
        WetPaint oneTold = Check.of("bench 5;painted 0 3;" + drawnComers(7, 14, 1));
        for (int what = 0; what < 8; what++) {
            check.due("drawn at one bench " + what, one.drawn(0, 7, 14, what), oneTold.day(0, what));
        }
        check.due("drawn, n 0", x.drawn(0, 1, 0, 0), NONE);
        check.due("drawn, n 15", x.drawn(0, 1, 15, 0), NONE);
        check.due("drawn, what -1", x.drawn(0, 1, 1, -1), NONE);
        check.due("drawn of no benches", x.drawn(1, 1, 1, 0), NONE);
        check.due("drawn of no park", x.drawn(2, 1, 1, 0), NONE);
        check.due("told comers stay", x.park(0, 6), 1);
    }

    private static String drawnComers(int seed, int n, int benches) {
        String[] habits = {"card", "touch", "print", "sheep", "best"};
        int[] below = {5, 48, benches, 10, 10, 10};
        long x = seed & 0xffffffffL;
        StringBuilder text = new StringBuilder();
        for (int i = 0; i < n; i++) {
            text.append("comer");
            for (int j = 0; j < 6; j++) {
                x = (x * 1103515245L + 12345L) & 0xffffffffL;
                int number = (int) ((x >> 16) % below[j]);
                text.append(' ').append(j == 0 ? habits[number] : Integer.toString(number));
            }
            text.append(';');
        }
        return text.toString();
    }

    private static void otherwise() {
        // PAINTED at 0: WET 0 to 5, STICKY 6 to 9, DRY from 10 on; the other bench is DRY at all hours.
        WetPaint x = Check.of("bench 1;bench 1;painted 0 0;comer card 5 0 9 9 1;comer touch 5 0 9 9 4;comer sheep 9 1 9 1 1;");
        int[][] due = {{0, 1, 4, 1, 9}, {-4, 5, 4, 1, 9}, {0, 0, 0, 0, 5}};
        for (int k = 0; k < 3; k++) {
            for (int what = 0; what < 5; what++) {
                if (k != 2 || what < 3) {
                    check.due("otherwise " + k + " " + what, x.otherwise(0, k, what), due[k][what]);
                }
            }
        }
        check.due("sheep away", x.otherwise(0, 2, 3), 0);
        check.due("sheep has there", x.otherwise(0, 2, 4), 9);
        check.due("otherwise what 5", x.otherwise(0, 0, 5), NO_WORTH);
        check.due("otherwise what -1", x.otherwise(0, 0, -1), NO_WORTH);
        check.due("otherwise of no comer", x.otherwise(0, 3, 0), NO_WORTH);
        check.due("otherwise of comer -1", x.otherwise(0, -1, 0), NO_WORTH);
        check.due("otherwise of no park", x.otherwise(1, 0, 0), NO_WORTH);
        // His own bench is one of those he may come to.
        WetPaint y = Check.of("bench 1;comer card 5 0 9 9 1;");
        check.due("one bench alone", y.otherwise(0, 0, 3), 0);
        check.due("one bench's worth", y.otherwise(0, 0, 4), 9);
        // It never dries, and there is no hour 48 at which it might: neither to wait for nor to paint at.
        WetPaint w = Check.of("rate 0 47 0;bench 1;painted 0 0;comer touch 46 0 9 9 4;comer card 47 0 9 6 4;");
        check.due("no wait till 48", w.otherwise(0, 0, 1), 0);
        check.due("what comes of it", w.otherwise(0, 0, 2), -4);
        check.due("the last hour's comer waits for nothing", w.otherwise(0, 1, 1), 0);
        check.due("anew at no hour 48", w.anew(0, 0, true), 47);
        check.due("anew at 47, harm", w.anew(0, 0, false), 6);
        int[] spare = {0, 13, 0, 9};
        WetPaint z = Check.of("bench 1;bench 1;painted 0 0;comer card 5 0 9 9 1;comer touch 5 0 9 9 4;comer sheep 9 1 9 1 1;", "");
        for (int what = 0; what < 4; what++) {
            check.due("spare " + what, z.spare(0, what), spare[what]);
            check.due("spare of no comers " + what, z.spare(1, what), NONE);
        }
        check.due("spare what 4", z.spare(1, 4), -2);
        check.due("spare what -1", z.spare(0, -1), -2);
        check.due("spare of no park", z.spare(2, 0), -2);
        // Painted at 6 it is DRY for both ahead of it; the sheep still misses 9.
        check.due("anew", z.anew(0, 0, false), 9);
        check.due("anew's hour", z.anew(0, 0, true), 6);
        check.due("anew of bench 1", z.anew(0, 1, true), 0);
        check.due("anew of bench 1, harm", z.anew(0, 1, false), 13);
        check.due("anew of no bench", z.anew(0, 2, true), -2);
        check.due("anew of no park", z.anew(2, 0, true), -2);
        check.due("painted stays as told", z.bench(0, 0, 1), 0);
    }

    private static void nothingThere() {
        WetPaint x = Check.of("");
        check.due("day of nothing", x.day(0, 0), 0);
        check.due("rule of nothing", x.rule(0, NONE), 0);
        check.due("days of nothing", x.days(0, 30, 3), 1);
        check.due("bench print of nothing", x.day(0, 10), NONE);
    }
}
