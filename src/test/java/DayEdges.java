/** Paint and a DAY: term 2, promises 9 to 11. */
final class DayEdges extends Edges {
    /** Paint of hour 5: WETNESS 12, 10, 8, 6 (WET at 5 to 8), 4, 2 (STICKY at 9, 10), DRY from 11 on; bench 1 is never PAINTED. */
    private static final String PAINT = "fresh 12;sticky 4;bench 7;bench 3;painted 0 5;";
    private static final int GOES = 0;
    private static final int TOUCHES = 1;
    private static final int TOUCHES_AND_SITS = 2;
    private static final int SITS = 3;

    DayEdges(Check check, Doc doc) {
        super(check, doc);
    }

    @Override
    void run() {
        wetness();
        stageAndDries();
        byHours();
        prints();
        touches();
        sits();
        cardAndTouch();
        printHabit();
        sheep();
        best();
        believes();
        missedAndHarm();
        wet();
        did();
        day();
        close();
    }

    /** What the last COMER of a park with PAINT and these lines did: what 0, 1 and so on. */
    private void last(String lines, int... due) {
        WetPaint x = told(PAINT + lines);
        int k = x.park(0, 6) - 1;
        for (int what = 0; what < due.length; what++) {
            due("did " + what + " of " + lines, x.did(0, k, what), due[what]);
        }
    }

    private void sum(String lines, int what, int due) {
        due("day " + what + " of " + lines, told(PAINT + lines).day(0, what), due);
    }

    private void wetness() {
        term(2, "WETNESS at an hour h of paint of an hour p, not behind it: FRESH less the RATES of hours p to h less 1, 0 at least;");
        int[] wetness = {12, 10, 8, 6, 4, 2, 0, 0};
        WetPaint x = told(PAINT);
        for (int i = 0; i < wetness.length; i++) {
            due("WETNESS at " + (5 + i), x.wet(0, 0, 5 + i, 0), wetness[i]);
        }
        due("at the last hour", x.wet(0, 0, 47, 0), 0);
        WetPaint rates = told("fresh 60;rate 0 47 0;rate 9 9 9;rate 10 10 7;rate 12 12 5;rate 8 8 8;bench 1;painted 0 9;");
        int[] left = {60, 51, 44, 44, 39, 39};
        for (int i = 0; i < left.length; i++) {
            due("WETNESS by RATES at " + (9 + i), rates.wet(0, 0, 9 + i, 0), left[i]);
        }
        due("at 47, by no RATE", rates.wet(0, 0, 47, 0), 39);
        due("the RATE of 47 is for no hour", told("rate 0 46 0;rate 47 47 9;bench 1;painted 0 0;").wet(0, 0, 47, 0), 20);
        due("the RATE of 46 is for 47", told("rate 0 45 0;rate 46 46 9;bench 1;painted 0 0;").wet(0, 0, 47, 0), 11);
        due("not below 0", told("fresh 1;sticky 0;rate 0 0 9;bench 1;painted 0 0;").wet(0, 0, 1, 0), 0);
        due("just 0", told("fresh 9;rate 0 0 9;bench 1;painted 0 0;").wet(0, 0, 1, 0), 0);
        due("just above", told("fresh 10;rate 0 0 9;bench 1;painted 0 0;").wet(0, 0, 1, 0), 1);
        due("of hour 0 at hour 0", told("fresh 10;rate 0 0 9;bench 1;painted 0 0;").wet(0, 0, 0, 0), 10);
        due("of hour 47 at hour 47", told("bench 1;painted 0 47;").wet(0, 0, 47, 0), 20);
        term(2, "at hours ahead of p 0 (old paint).");
        for (int h = 0; h < 5; h++) {
            due("WETNESS at " + h, x.wet(0, 0, h, 0), 0);
            due("STAGE at " + h, x.wet(0, 0, h, 1), 0);
        }
        WetPaint late = told("rate 0 47 0;bench 1;painted 0 47;");
        due("ahead of 47", late.wet(0, 0, 46, 0), 0);
        due("at 47", late.wet(0, 0, 47, 0), 20);
    }

    private void stageAndDries() {
        term(2, "STAGE: 2 WET, if WETNESS is above STICKY; else 1 STICKY, if it is above 0; else 0 DRY.");
        int[] stages = {2, 2, 2, 2, 1, 1, 0, 0};
        for (int i = 0; i < stages.length; i++) {
            due("STAGE at " + (5 + i), told(PAINT).wet(0, 0, 5 + i, 1), stages[i]);
        }
        due("STICKY 5, WETNESS 6", told(PAINT + "sticky 5;").wet(0, 0, 8, 1), 2);
        due("STICKY 6, WETNESS 6", told(PAINT + "sticky 6;").wet(0, 0, 8, 1), 1);
        due("STICKY 0, WETNESS 2", told(PAINT + "sticky 0;").wet(0, 0, 10, 1), 2);
        due("STICKY 0, WETNESS 0", told(PAINT + "sticky 0;").wet(0, 0, 11, 1), 0);
        due("STICKY as FRESH", told(PAINT + "sticky 12;").wet(0, 0, 5, 1), 1);
        due("WETNESS 1", told("fresh 1;sticky 1;bench 1;painted 0 0;").wet(0, 0, 0, 1), 1);
        due("the least that is WET", told("fresh 1;sticky 0;bench 1;painted 0 0;").wet(0, 0, 0, 1), 2);
        term(2, "DRIES: the first hour from p on at which it is DRY.");
        due("DRIES", told(PAINT).wet(0, 0, 0, 2), 11);
        due("DRIES at 47", told("fresh 1;sticky 0;bench 1;painted 0 46;").wet(0, 0, 0, 2), 47);
        due("DRIES not at 47", told("fresh 3;sticky 0;bench 1;painted 0 46;").wet(0, 0, 0, 2), 48);
        due("DRIES behind an hour without RATE", told("fresh 1;sticky 0;rate 5 8 0;bench 1;painted 0 5;").wet(0, 0, 0, 2), 10);
        due("of hour 0", told("fresh 2;sticky 0;bench 1;painted 0 0;").wet(0, 0, 0, 2), 1);
    }

    private void byHours() {
        term(2, "A DAY goes through all COMERS and PIGEONS by hours (of one hour PIGEONS first, then COMERS by numbers).");
        // SHEEP SIT only if the one who SITS comes ahead of them.
        last("comer card 21 1 1 1 1;comer sheep 20 1 5 1 1;", GOES);
        last("comer card 20 1 1 1 1;comer sheep 21 1 5 1 1;", SITS);
        last("comer card 20 1 1 1 1;comer sheep 20 1 5 1 1;", SITS);
        WetPaint x = told(PAINT + "comer sheep 20 1 5 1 1;comer card 20 1 1 1 1;comer sheep 20 1 5 1 1;comer sheep 19 1 5 1 1;"
            + "comer sheep 21 1 5 1 1;");
        int[] due = {GOES, SITS, SITS, GOES, SITS};
        for (int k = 0; k < due.length; k++) {
            due("by hours and numbers, " + k, x.did(0, k, 0), due[k]);
        }
        // A PRINT of the same hour by a PIGEON, though it is told behind, and of the first and the last hour.
        last("comer print 8 0 1 1 1;pigeon 0 8;", GOES);
        last("pigeon 0 9;comer print 8 0 1 1 1;", SITS);
        last("painted 0 0;comer print 0 0 1 1 1;pigeon 0 0;", GOES);
        last("painted 0 47;comer print 47 0 1 1 1;pigeon 0 47;", GOES);
        last("painted 0 47;comer card 47 0 1 1 1;comer print 47 0 1 1 1;", GOES);
        // All of them: fourteen COMERS at one hour, told from the last hour backwards, each behind a SHEEP that follows.
        StringBuilder text = new StringBuilder();
        for (int k = 0; k < 14; k++) {
            text.append("comer ").append(k == 13 ? "card" : "sheep").append(' ').append(33 - k).append(" 1 1 1 1;");
        }
        WetPaint all = told(PAINT + text);
        for (int k = 0; k < 14; k++) {
            due("backwards " + k, all.did(0, k, 0), SITS);
        }
        sum("pigeon 0 8;pigeon 0 5;pigeon 0 6;pigeon 0 7;" + text, 2, 4);
    }

    private void prints() {
        term(2, "A PRINT is made at a BENCH at an hour: deep, if it is WET, faint, if it is STICKY; none, if DRY.");
        sitsAndPrints(2, new int[] {0, 1, 1, 1, 1, 0, 0, 0});
        sitsAndPrints(3, new int[] {0, 0, 0, 0, 0, 1, 1, 0});
        term(2, "A PIGEON makes a PRINT.");
        sum("pigeon 0 5;pigeon 0 8;pigeon 0 9;pigeon 0 11;", 2, 2);
        sum("pigeon 0 5;pigeon 0 8;pigeon 0 9;pigeon 0 11;", 3, 1);
        sum("pigeon 1 5;pigeon 0 4;", 2, 0);
        sum("pigeon 0 5;pigeon 0 5;pigeon 0 5;pigeon 0 5;", 2, 4);
        sum("pigeon 0 5;pigeon 0 5;pigeon 0 9;", 0, 0);
        sum("card 0 0 47;pigeon 0 5;", 7, 0);
        sum("pigeon 0 5;comer sheep 6 0 1 1 1;", 5, 0);
    }

    /** PRINTS of one kind by one who SITS at an hour from 4 on. */
    private void sitsAndPrints(int what, int[] due) {
        for (int i = 0; i < due.length; i++) {
            sum("comer card " + (4 + i) + " 0 1 1 1;", what, due[i]);
            sum("comer card " + (4 + i) + " 1 1 1 1;", what, 0);
        }
    }

    private void touches() {
        term(2, "A COMER TOUCHES: a PRINT; it costs TOUCH, if WET, half of it (cut), if STICKY, nothing, if DRY.");
        for (int touch = 0; touch < 10; touch++) {
            last("comer touch 8 0 9 9 " + touch + ";", TOUCHES, 2, touch, 0);
            last("comer touch 9 0 9 9 " + touch + ";", TOUCHES, 1, touch / 2, 0);
            last("comer touch 11 0 9 9 " + touch + ";", TOUCHES_AND_SITS, 0, 0, 0);
        }
        sum("comer touch 8 0 9 9 9;", 2, 1);
        sum("comer touch 9 0 9 9 9;", 3, 1);
        sum("comer touch 8 0 9 9 9;", 3, 0);
        sum("comer touch 11 0 9 9 9;", 2, 0);
        sum("comer touch 11 0 9 9 9;", 3, 0);
        sum("comer touch 8 0 9 9 9;", 4, 0);
        sum("comer touch 8 0 9 9 9;", 1, 0);
    }

    private void sits() {
        term(2, "He SITS: he has WORTH; it costs STAIN, if WET, half of it (cut), if STICKY; a PRINT; STRIPES: SLATS, if WET.");
        for (int stain = 0; stain < 10; stain++) {
            last("comer card 8 0 9 " + stain + " 9;", SITS, 2, stain, 0);
            last("comer card 9 0 9 " + stain + " 9;", SITS, 1, stain / 2, 0);
            last("comer card 11 0 9 " + stain + " 9;", SITS, 0, 0, 0);
        }
        for (int hour : new int[] {4, 8, 9, 11}) {
            sum("comer card " + hour + " 0 6 1 1;", 1, 6);
            sum("comer card " + hour + " 0 6 1 1;", 5, 1);
            sum("comer card " + hour + " 0 6 1 1;", 4, hour == 8 ? 7 : 0);
            sum("comer card " + hour + " 0 6 1 1;", 2, hour == 8 ? 1 : 0);
            sum("comer card " + hour + " 0 6 1 1;", 3, hour == 9 ? 1 : 0);
        }
        sum("painted 1 5;comer card 5 1 1 1 1;comer card 6 1 1 1 1;comer card 6 0 1 1 1;", 4, 3 + 3 + 7);
        term(2, "Or he GOES by.");
        last("card 0 8 8;comer card 8 0 9 9 9;", GOES, 2, 0, 0);
        for (int what = 0; what < 8; what++) {
            sum("card 0 8 8;comer card 8 0 9 9 9;", what, 0);
        }
    }

    private void cardAndTouch() {
        term(2, "HABITS: CARD: GOES by, if a CARD hangs there at that hour and he BELIEVES it; else SITS.");
        last("comer card 8 0 1 9 1;", SITS);
        last("card 0 7 9;comer card 8 0 1 9 1;", GOES, 2, 0, 0, 1, 1);
        last("card 0 7 8;comer card 8 0 1 9 1;", GOES, 2, 0, 0, 1, 1);
        last("card 0 8 9;comer card 8 0 1 9 1;", GOES, 2, 0, 0, 1, 1);
        last("card 0 9 10;comer card 8 0 1 9 1;", SITS, 2, 9, 0, 0, 1);
        last("card 0 6 7;comer card 8 0 1 9 1;", SITS, 2, 9, 0, 0, 1);
        last("card 1 0 47;comer card 8 0 1 9 1;", SITS, 2, 9, 0, 0, 1);
        last("card 0 0 0;comer card 0 0 1 9 1;", GOES, 0, 0, 1, 1, 1);
        last("card 0 47 47;comer card 47 0 1 9 1;", GOES, 0, 0, 1, 1, 1);
        last("belief 1;card 0 0 47;comer touch 4 0 0 0 0;comer card 8 0 1 9 1;", SITS, 2, 9, 0, 1, 0);
        // A CARD is nothing to all other HABITS.
        last("card 0 0 47;comer touch 11 0 1 9 1;", TOUCHES_AND_SITS);
        last("card 0 0 47;comer print 8 0 1 9 1;", SITS);
        last("card 0 0 47;comer best 8 0 9 1 1;", SITS);
        term(2, "TOUCH: TOUCHES, then SITS, if DRY; else GOES.");
        int[] acts = {TOUCHES_AND_SITS, TOUCHES, TOUCHES, TOUCHES, TOUCHES, TOUCHES, TOUCHES, TOUCHES_AND_SITS};
        for (int i = 0; i < acts.length; i++) {
            last("comer touch " + (4 + i) + " 0 9 1 1;", acts[i]);
        }
        last("comer touch 8 1 9 1 1;", TOUCHES_AND_SITS, 0, 0, 0);
        sum("comer touch 11 0 9 1 1;", 5, 1);
        sum("comer touch 11 0 9 1 1;", 1, 9);
    }

    private void printHabit() {
        term(2, "PRINT: by the latest PRINT of that BENCH, since it was PAINTED, at most 3 hours ago: deep: GOES; faint: as TOUCH; none: SITS.");
        last("comer print 8 0 1 9 3;", SITS, 2, 9, 0);
        last("comer print 8 1 1 9 3;", SITS, 0, 0, 0);
        int[] deep = {GOES, GOES, GOES, GOES, SITS, SITS};
        int[] faint = {TOUCHES, TOUCHES_AND_SITS, TOUCHES_AND_SITS, TOUCHES_AND_SITS, SITS, SITS};
        for (int ago = 0; ago < 6; ago++) {
            last("pigeon 0 8;comer print " + (8 + ago) + " 0 6 9 3;", deep[ago]);
            last("pigeon 0 10;comer print " + (10 + ago) + " 0 6 9 3;", faint[ago]);
        }
        last("pigeon 0 9;comer print 9 0 6 9 3;", TOUCHES, 1, 1, 0);
        last("pigeon 0 8;comer print 11 0 6 9 3;", GOES, 0, 0, 6);
        // The latest one counts alone, of one hour that of the latest comer.
        last("pigeon 0 8;pigeon 0 9;comer print 9 0 6 9 3;", TOUCHES);
        last("pigeon 0 9;pigeon 0 8;comer print 9 0 6 9 3;", TOUCHES);
        last("comer card 8 0 1 1 1;comer print 8 0 1 9 3;", GOES);
        last("comer touch 8 0 1 1 1;comer print 8 0 1 9 3;", GOES);
        last("comer touch 9 0 1 1 1;comer print 10 0 1 9 3;", TOUCHES);
        last("comer best 8 0 1 9 9;comer print 8 0 1 9 3;", SITS);
        // Where it is DRY no PRINT is made, so the one ahead of it stays the latest.
        last("pigeon 0 10;pigeon 0 12;comer print 12 0 6 9 3;", TOUCHES_AND_SITS);
        last("pigeon 0 10;pigeon 0 13;comer print 14 0 6 9 3;", SITS);
        // Those of another BENCH, and of hours ahead of the paint, are none.
        last("painted 1 5;pigeon 1 8;comer print 8 0 1 9 3;", SITS);
        last("painted 1 5;pigeon 1 8;comer print 8 1 1 9 3;", GOES);
        last("pigeon 0 4;comer card 4 0 1 1 1;comer print 5 0 1 9 3;", SITS, 2, 9, 0);
        last("painted 0 0;pigeon 0 0;comer print 3 0 1 9 3;", GOES);
    }

    private void sheep() {
        term(2, "SHEEP: SITS, if somebody SAT there since it was PAINTED (never PAINTED: at all); else GOES.");
        last("comer sheep 12 0 5 9 3;", GOES, 0, 0, 5);
        last("comer sheep 8 0 5 9 3;", GOES, 2, 0, 0);
        last("comer card 8 0 1 1 1;comer sheep 8 0 5 9 3;", SITS, 2, 9, 0);
        last("comer card 5 0 1 1 1;comer sheep 47 0 5 9 3;", SITS, 0, 0, 0);
        last("comer card 4 0 1 1 1;comer sheep 5 0 5 9 3;", GOES);
        last("comer card 4 0 1 1 1;comer card 5 0 1 1 1;comer sheep 5 0 5 9 3;", SITS);
        last("comer card 8 1 1 1 1;comer sheep 9 0 5 9 3;", GOES);
        last("comer touch 8 0 1 1 1;comer sheep 12 0 5 9 3;", GOES);
        last("comer touch 11 0 1 1 1;comer sheep 12 0 5 9 3;", SITS);
        last("comer sheep 11 0 1 1 1;comer sheep 12 0 5 9 3;", GOES);
        last("pigeon 0 8;comer sheep 8 0 5 9 3;", GOES);
        last("comer card 0 1 1 1 1;comer sheep 1 1 5 9 3;", SITS);
        last("comer card 0 1 1 1 1;comer sheep 47 1 5 9 3;", SITS);
        last("comer sheep 47 1 5 9 3;", GOES, 0, 0, 5);
        last("painted 0 0;comer card 0 0 1 1 1;comer sheep 0 0 5 9 3;", SITS);
        last("comer card 8 0 1 1 1;comer sheep 9 0 1 1 1;comer sheep 10 0 5 9 3;", SITS, 1, 4, 0);
    }

    private void best() {
        term(2, "BEST: SITS, if WORTH is more than it costs; else GOES.");
        for (int worth = 0; worth < 10; worth++) {
            last("comer best 8 0 " + worth + " 5 9;", worth > 5 ? SITS : GOES, 2, worth > 5 ? 5 : 0, 0);
            last("comer best 9 0 " + worth + " 5 9;", worth > 2 ? SITS : GOES, 1, worth > 2 ? 2 : 0, 0);
            last("comer best 11 0 " + worth + " 5 9;", worth > 0 ? SITS : GOES, 0, 0, 0);
            last("comer best 4 0 " + worth + " 9 9;", worth > 0 ? SITS : GOES, 0, 0, 0);
        }
        last("comer best 8 0 0 0 0;", GOES, 2, 0, 0);
        last("comer best 8 0 1 0 9;", SITS, 2, 0, 0);
    }

    private void believes() {
        term(2, "BELIEVES: of all times at which, so far, somebody TOUCHED or SAT at a BENCH at which a CARD hung, it was TRUE (not DRY)"
            + " in BELIEF hundredths or more; there was none: he does.");
        last("belief 100;card 0 0 47;comer card 20 0 1 1 1;", GOES, 0, 0, 1, 1, 1);
        last("belief 100;comer card 20 0 1 1 1;", SITS, 0, 0, 0, 0, 1);
        // One TRUE of two, of three: just as many hundredths are enough.
        String one = "card 0 0 47;comer touch 8 0 0 0 0;comer touch 12 0 0 0 0;";
        last("belief 50;" + one + "comer card 20 0 1 1 1;", GOES, 0, 0, 1, 1, 1);
        last("belief 51;" + one + "comer card 20 0 1 1 1;", SITS, 0, 0, 0, 1, 0);
        last("belief 33;" + one + "comer touch 13 0 0 0 0;comer card 20 0 1 1 1;", GOES);
        last("belief 34;" + one + "comer touch 13 0 0 0 0;comer card 20 0 1 1 1;", SITS);
        last("belief 66;" + one + "comer touch 7 0 0 0 0;comer card 20 0 1 1 1;", GOES);
        last("belief 67;" + one + "comer touch 7 0 0 0 0;comer card 20 0 1 1 1;", SITS);
        last("belief 100;card 0 0 47;comer touch 8 0 0 0 0;comer card 20 0 1 1 1;", GOES);
        last("belief 0;card 0 0 47;comer touch 12 0 0 0 0;comer card 20 0 1 1 1;", GOES);
        last("belief 1;card 0 0 47;comer touch 12 0 0 0 0;comer card 20 0 1 1 1;", SITS);
        // STICKY is TRUE too; old paint is DRY.
        last("belief 100;card 0 0 47;comer touch 9 0 0 0 0;comer card 20 0 1 1 1;", GOES);
        last("belief 1;card 0 0 47;comer touch 4 0 0 0 0;comer card 20 0 1 1 1;", SITS);
        // So far: not one who comes later, nor himself; of the same hour those with lesser numbers.
        last("belief 1;card 0 0 47;comer touch 21 0 0 0 0;comer card 20 0 1 1 1;", GOES);
        last("belief 1;card 0 0 47;comer touch 20 0 0 0 0;comer card 20 0 1 1 1;", SITS);
        last("belief 1;card 0 0 47;comer touch 20 0 0 0 0;", TOUCHES_AND_SITS, 0, 0, 0, 1, 1);
        // By SITTING too, by each HABIT that SITS; once, by one who does both; not by one who GOES, nor by a PIGEON.
        last("belief 1;card 0 0 47;comer print 12 0 1 1 1;comer card 20 0 1 1 1;", SITS);
        last("belief 1;card 0 0 47;comer best 12 0 1 1 1;comer card 20 0 1 1 1;", SITS);
        last("belief 1;card 0 0 47;comer best 12 0 0 1 1;comer sheep 13 0 1 1 1;comer card 20 0 1 1 1;", GOES);
        last("belief 1;card 0 0 47;pigeon 0 12;comer card 20 0 1 1 1;", GOES);
        sum("card 0 0 47;comer touch 12 0 1 1 1;", 7, 1);
        sum("card 0 0 47;comer touch 8 0 1 1 1;", 6, 1);
        // Only where a CARD hung at that hour; of all BENCHES together, and by those who see none too.
        last("belief 1;card 0 13 47;comer touch 12 0 0 0 0;comer card 20 0 1 1 1;", GOES);
        last("belief 1;card 0 12 47;comer touch 12 0 0 0 0;comer card 20 0 1 1 1;", SITS);
        last("belief 1;card 0 0 11;comer touch 12 0 0 0 0;comer card 20 1 1 1 1;", SITS, 0, 0, 0, 0, 1);
        last("belief 1;card 1 0 47;card 0 20 20;comer touch 12 1 0 0 0;comer card 20 0 1 1 1;", SITS, 0, 0, 0, 1, 0);
        last("belief 1;card 1 0 47;comer touch 12 1 0 0 0;comer card 20 0 1 1 1;", SITS, 0, 0, 0, 0, 0);
    }

    private void missedAndHarm() {
        term(2, "MISSED: WORTH of one who GOES from a BENCH that is DRY.");
        last("card 0 0 47;comer card 11 0 9 1 1;", GOES, 0, 0, 9);
        last("card 0 0 47;comer card 4 0 9 1 1;", GOES, 0, 0, 9);
        last("card 0 0 47;comer card 10 0 9 1 1;", GOES, 1, 0, 0);
        last("card 0 0 47;comer card 8 0 9 1 1;", GOES, 2, 0, 0);
        last("comer touch 8 0 9 1 1;", TOUCHES, 2, 1, 0);
        last("comer card 11 0 9 1 1;", SITS, 0, 0, 0);
        last("comer sheep 11 1 7 1 1;", GOES, 0, 0, 7);
        term(2, "HARM: all that TOUCHES, SITTING cost, and what is MISSED.");
        sum("comer card 8 0 1 7 1;", 0, 7);
        sum("comer touch 8 0 1 1 5;", 0, 5);
        sum("comer sheep 11 1 9 1 1;", 0, 9);
        sum("comer card 8 0 1 7 1;comer touch 9 0 1 1 5;comer sheep 11 1 9 1 1;comer touch 20 0 9 9 9;", 0, 7 + 2 + 9);
        sum("", 0, 0);
        sum("comer card 8 0 9 9 9;".repeat(14), 0, 14 * 9);
    }

    private void wet() {
        promise(9, "At an hour, 0 .. 47, of a BENCH as PAINTED (never: DRY), what 0: WETNESS, 1: STAGE, 2: DRIES (hour aside; never: 0; 48: not till 47).");
        for (int h : new int[] {0, 4, 5, 8, 9, 10, 11, 46, 47}) {
            WetPaint x = told("", PAINT + "bench 1;painted 2 45;");
            int wetness = h >= 5 && h < 11 ? 12 - 2 * (h - 5) : 0;
            row("bench 0 at " + h, what -> x.wet(1, 0, h, what), NONE, wetness, wetness > 4 ? 2 : wetness > 0 ? 1 : 0, 11);
        }
        WetPaint y = told("", PAINT + "bench 1;painted 2 45;");
        row("never", what -> y.wet(1, 1, 0, what), NONE, 0, 0, 0);
        row("never, at 47", what -> y.wet(1, 1, 47, what), NONE, 0, 0, 0);
        row("not till 47", what -> y.wet(1, 2, 47, what), NONE, 8, 2, 48);
        row("not till 47, ahead of it", what -> y.wet(1, 2, 0, what), NONE, 0, 0, 48);
        promise(9, "NONE: there is none such (of any), or for another what.");
        WetPaint z = told("", PAINT);
        for (int what = 0; what < 3; what++) {
            int asked = what;
            outside("at hour, what " + what, hour -> z.wet(1, 0, hour, asked), NONE, 0, 47);
            outside("of never at hour, what " + what, hour -> z.wet(1, 1, hour, asked), NONE, 0, 47);
            outside("of bench, what " + what, bench -> z.wet(1, bench, 8, asked), NONE, 0, 1);
            outside("of park, what " + what, park -> z.wet(park, 0, 8, asked), NONE, 1, 1);
        }
    }

    private void did() {
        promise(10, "Of COMER k in the DAY, what 0: what he did: 0 GOES, 1 TOUCHES and GOES, 2 TOUCHES and SITS, 3 SITS, 1: STAGE, 2: what it cost,"
            + " 3: MISSED, 4: 1 if he comes while a CARD hangs there, else 0, 5: 1 if he would BELIEVE then, else 0.");
        String text = PAINT + "belief 51;card 0 9 30;comer card 30 0 9 8 7;comer touch 9 0 6 5 4;comer touch 12 0 5 5 5;comer card 12 0 9 9 9;"
            + "comer card 8 0 3 4 5;comer card 9 0 9 9 9;comer sheep 20 1 2 2 2;comer touch 31 0 1 1 1;";
        int[][] due = {{SITS, 0, 0, 0, 1, 0}, {TOUCHES, 1, 2, 0, 1, 1}, {TOUCHES_AND_SITS, 0, 0, 0, 1, 1}, {SITS, 0, 0, 0, 1, 0},
            {SITS, 2, 4, 0, 0, 1}, {GOES, 1, 0, 0, 1, 1}, {GOES, 0, 0, 2, 0, 0}, {TOUCHES_AND_SITS, 0, 0, 0, 0, 0}};
        for (int k = 0; k < due.length; k++) {
            WetPaint x = told("", text);
            int asked = k;
            row("COMER " + k, what -> x.did(1, asked, what), NONE, due[k]);
        }
        promise(10, "NONE: there is none such (of either), or for another what.");
        WetPaint x = told("", text);
        for (int what = 0; what < 6; what++) {
            int asked = what;
            outside("of COMER, what " + what, k -> x.did(1, k, asked), NONE, 0, 7);
            outside("of park, what " + what, park -> x.did(park, 0, asked), NONE, 1, 1);
        }
        due("what 6", x.did(1, 0, 6), NONE);
        due("what -1", x.did(1, 0, -1), NONE);
        due("COMER 0 of none", x.did(0, 0, 0), NONE);
    }

    private void day() {
        promise(11, "Of the DAY, what 0: HARM, 1: WORTH that all have had, 2: deep PRINTS, 3: faint ones, 4: STRIPES, 5: how many SAT, 6: TRUE ones,"
            + " 7: all that were found out, 10 + b, 20 + b: deep, faint PRINTS of a BENCH.");
        String text = PAINT + "belief 100;painted 1 6;pigeon 0 5;pigeon 1 11;pigeon 0 11;card 1 7 30;comer card 6 0 3 5 0;comer card 6 1 2 9 0;"
            + "comer touch 7 1 9 9 3;comer touch 10 0 8 8 8;comer touch 12 1 7 9 9;comer card 13 1 5 9 9;comer sheep 20 0 4 9 9;comer best 21 0 0 1 1;";
        WetPaint x = told("", text);
        int[] due = new int[22];
        java.util.Arrays.fill(due, NONE);
        // COSTS 5, 9, 3 and 4; the one at 13 no longer BELIEVES; the SHEEP SITS behind the first one; BEST GOES and misses 0.
        System.arraycopy(new int[] {5 + 9 + 3 + 4, 3 + 2 + 7 + 5 + 4, 4, 2, 7 + 3, 5, 1, 3}, 0, due, 0, 8);
        due[10] = 2;
        due[11] = 2;
        due[20] = 1;
        due[21] = 1;
        row("day", what -> x.day(1, what), NONE, due);
        WetPaint six = told("bench 1;bench 1;bench 1;bench 1;bench 1;bench 1;painted 5 0;painted 3 0;pigeon 5 0;pigeon 5 9;pigeon 3 0;");
        int[] sums = new int[26];
        java.util.Arrays.fill(sums, NONE);
        System.arraycopy(new int[] {0, 0, 2, 1, 0, 0, 0, 0}, 0, sums, 0, 8);
        System.arraycopy(new int[] {0, 0, 0, 1, 0, 1}, 0, sums, 10, 6);
        System.arraycopy(new int[] {0, 0, 0, 0, 0, 1}, 0, sums, 20, 6);
        row("day of six benches", what -> six.day(0, what), NONE, sums);
        row("day of nothing", what -> told("").day(0, what), NONE, 0, 0, 0, 0, 0, 0, 0, 0);
        promise(11, "NONE: there is none such, or for another what.");
        WetPaint z = told("", text);
        for (int what : new int[] {8, 9, 12, 15, 16, 19, 22, 25, 26, 30, -1, -2, Integer.MIN_VALUE, Integer.MAX_VALUE}) {
            due("what " + what, z.day(1, what), NONE);
        }
        for (int what : new int[] {0, 1, 5}) {
            outside("of park, what " + what, park -> z.day(park, what), NONE, 0, 1);
        }
        due("deep ones of a BENCH of a park without", z.day(0, 10), NONE);
        due("day of no park", new WetPaint().day(0, 0), NONE);
    }
}
