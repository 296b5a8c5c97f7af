/** DAYS that are otherwise in one thing: term 6, promises 25 to 27. */
final class OtherEdges extends Edges {
    /** Paint of hour 5: WET at 5 to 8, STICKY at 9, 10, DRY from 11 on; bench 1 is never PAINTED. */
    private static final String PAINT = "fresh 12;sticky 4;bench 7;bench 3;painted 0 5;";
    /** HARM 20: 9, 4 and 7. */
    private static final String THREE = PAINT + "comer card 8 0 3 9 1;comer touch 8 0 5 5 4;comer sheep 20 1 7 1 1;";

    OtherEdges(Check check, Doc doc) {
        super(check, doc);
    }

    @Override
    void run() {
        asTold();
        hasTerm();
        waitTerm();
        awayTerm();
        spareTerm();
        anewTerm();
        worstTerm();
        otherwise();
        spare();
        anew();
        close();
    }

    /** One what of otherwise() of the last COMER of a park with PAINT and these lines. */
    private void last(int what, String lines, int due) {
        WetPaint x = told(PAINT + lines);
        due("otherwise " + what + " of " + lines, x.otherwise(0, x.park(0, 6) - 1, what), due);
    }

    private void asTold() {
        term(6, "Of a DAY that is otherwise in one thing, all else as told (HARM and all of the whole DAY):");
        WetPaint x = told("", THREE + "card 0 0 3;");
        int[] day = new int[8];
        for (int what = 0; what < 8; what++) {
            day[what] = x.day(1, what);
        }
        // In turn, so that nothing of one is left for the next one.
        int[] has = {-6, -4, 0};
        for (int twice = 0; twice < 2; twice++) {
            for (int k = 0; k < 3; k++) {
                for (int what = 1; what < 5; what++) {
                    x.otherwise(1, k, what);
                    due("HAS of " + k + " as told", x.otherwise(1, k, 0), has[k]);
                }
            }
            due("HARM of the whole DAY, one spared", x.spare(1, 1), 11);
            due("HARM of the whole DAY, one painted anew", x.anew(1, 0, false), 7);
        }
        for (int what = 0; what < 8; what++) {
            due("day " + what, x.day(1, what), day[what]);
        }
        // What was found out on one DAY, or on DAYS in a row, is nothing to the next one: he BELIEVES on each of them.
        WetPaint y = told(PAINT + "belief 50;card 1 0 47;comer card 9 1 5 1 1;comer touch 20 1 1 1 1;");
        for (int twice = 0; twice < 2; twice++) {
            due("on a third day", y.days(0, 3, 0), 0);
            due("HAS of one who BELIEVES", y.otherwise(0, 0, 0), 0);
            due("WORST", y.spare(0, 3), 5);
            due("SPARE's HARM", y.spare(0, 1), 0);
            due("ANEW's hour", y.anew(0, 1, true), 4);
            due("RULE's HARM", y.rule(0, 0), 6);
            due("HANG's HARM", y.hang(0, 0, false), 5);
            due("DRAWN's first", y.drawn(0, 0, 14, 30), 3);
            due("HARM of the DAY", y.day(0, 0), 5);
            due("what he did", y.did(0, 0, 0), 0);
        }
        due("PAINTED as told", x.bench(1, 0, 1), 5);
        due("CARD as told", x.bench(1, 0, 3), 3);
        due("COMERS as told", x.park(1, 6), 3);
        due("hour as told", x.told(1, 2, 0, 1), 8);
        due("BENCH as told", x.told(1, 2, 2, 2), 1);
    }

    private void hasTerm() {
        term(6, "HAS of a COMER: WORTH, if he SITS, less what it costs him.");
        last(0, "comer card 8 0 9 4 1;", 5);
        last(0, "comer card 9 0 9 4 1;", 7);
        last(0, "comer card 11 0 9 4 1;", 9);
        last(0, "comer card 8 0 1 9 1;", -8);
        last(0, "card 0 0 47;comer card 11 0 9 4 1;", 0);
        last(0, "comer touch 8 0 9 4 3;", -3);
        last(0, "comer touch 9 0 9 4 3;", -1);
        last(0, "comer touch 11 0 9 4 3;", 9);
        last(0, "comer sheep 20 1 7 1 1;", 0);
        last(0, "comer best 8 0 5 4 1;", 1);
    }

    private void waits(String lines, int hours, int comes) {
        last(1, lines, hours);
        last(2, lines, comes);
    }

    private void waitTerm() {
        term(6, "WAIT of a COMER: hours by which he comes later, 0 to 47 less his hour: those by which HAS less hours is most, of several the fewest; that.");
        waits("comer card 8 0 9 9 1;", 3, 6);
        waits("comer card 8 0 9 7 1;", 3, 6);
        waits("comer card 9 0 9 9 1;", 2, 7);
        waits("comer card 10 0 9 9 1;", 1, 8);
        waits("comer card 11 0 9 9 1;", 0, 9);
        waits("comer card 5 0 9 9 1;", 6, 3);
        waits("comer touch 8 0 9 9 1;", 3, 6);
        waits("comer touch 5 0 2 9 9;", 6, -4);
        // Of several the fewest: 8 at once and 8 an hour later; 6 an hour later and 6 three hours later.
        waits("comer card 8 0 9 1 1;", 0, 8);
        waits("comer card 8 0 9 5 1;", 1, 6);
        waits("comer sheep 20 1 9 9 1;", 0, 0);
        waits("comer best 8 0 1 9 1;", 0, 0);
        // Up to the last hour, none behind it.
        waits("painted 0 41;comer card 44 0 9 9 1;", 3, 6);
        waits("painted 0 42;comer card 45 0 9 9 1;", 1, 4);
        waits("painted 0 47;comer card 47 0 1 9 1;", 0, -8);
        waits("rate 0 47 0;painted 0 0;comer touch 46 0 9 9 9;", 0, -9);
        waits("card 1 0 46;comer card 0 1 9 1 1;", 0, 0);
        waits("card 1 30 46;comer card 40 1 9 1 1;", 7, 2);
        // The whole DAY is otherwise: he comes behind another one, of one hour by numbers.
        waits("comer card 12 1 1 1 1;comer sheep 10 1 9 1 1;", 2, 7);
        WetPaint x = told(PAINT + "comer sheep 10 1 9 1 1;comer card 12 1 1 1 1;");
        due("by a lesser number, hours", x.otherwise(0, 0, 1), 3);
        due("by a lesser number, what comes of it", x.otherwise(0, 0, 2), 6);
    }

    private void awayTerm() {
        term(6, "AWAY: the BENCH to which he comes in place of his for which HAS is most, of several the least; that.");
        away("comer card 8 0 9 9 1;", 1, 9);
        away("comer card 8 1 9 9 1;", 1, 9);
        away("painted 0 20;comer card 8 1 9 9 1;", 0, 9);
        away("comer card 20 1 9 9 1;", 0, 9);
        away("comer card 20 0 9 9 1;", 0, 9);
        away("painted 1 7;comer card 8 0 9 9 1;", 0, 0);
        away("painted 1 4;comer card 8 0 9 9 1;", 1, 5);
        away("painted 1 8;comer touch 8 1 9 9 4;", 0, -4);
        away("bench 1;painted 1 5;comer card 8 0 9 9 1;", 2, 9);
        away("bench 1;bench 1;bench 1;bench 1;painted 1 5;painted 2 5;painted 3 5;painted 4 5;comer card 8 1 9 9 1;", 5, 9);
        // SHEEP: to the one at which somebody SAT.
        away("comer card 7 0 1 1 1;comer sheep 8 1 9 4 1;", 0, 5);
        WetPaint one = told("bench 1;painted 0 5;comer card 5 0 3 9 1;");
        due("of one BENCH alone", one.otherwise(0, 0, 3), 0);
        due("HAS there", one.otherwise(0, 0, 4), -6);
    }

    private void away(String lines, int bench, int has) {
        last(3, lines, bench);
        last(4, lines, has);
    }

    private void spares(String text, int who, int harm) {
        due("SPARE of " + text, told(text).spare(0, 0), who);
        due("SPARE's HARM of " + text, told(text).spare(0, 1), harm);
    }

    private void spareTerm() {
        term(6, "SPARE: the COMER without whom (those behind him keep their order) HARM is least, of several the least; that HARM.");
        spares(THREE, 0, 11);
        spares(PAINT + "comer touch 8 0 5 5 4;comer sheep 20 1 7 1 1;", 1, 4);
        spares(PAINT + "comer sheep 20 1 7 1 1;comer touch 8 0 5 5 4;comer card 8 0 3 9 1;", 2, 11);
        spares(PAINT + "comer card 8 0 3 9 1;", 0, 0);
        spares(PAINT + "comer touch 8 0 5 5 4;".repeat(14), 0, 52);
        spares(PAINT + "comer touch 8 0 5 5 3;comer touch 8 0 5 5 4;comer touch 8 0 5 5 4;", 1, 7);
        spares(PAINT + "comer touch 8 0 5 5 1;".repeat(13) + "comer touch 8 0 5 5 2;", 13, 13);
        spares(PAINT + "comer card 20 0 1 1 1;comer card 21 0 1 1 1;", 0, 0);
        // Of one hour by numbers: the SHEEP stays behind the one who SITS, whoever is left out ahead of both.
        spares(PAINT + "comer touch 8 0 0 0 9;comer card 20 1 1 1 1;comer sheep 20 1 9 1 1;", 0, 0);
        spares(PAINT + "comer card 20 1 1 1 1;comer sheep 20 1 9 1 1;comer touch 8 0 0 0 9;", 2, 0);
        // One who does no HARM himself: without him the SHEEP GO from a BENCH that is WET.
        spares(PAINT + "comer card 8 0 1 1 1;comer sheep 8 0 1 9 1;comer sheep 8 0 1 9 1;", 0, 0);
    }

    private void anewHour(String text, int bench, int hour, int harm) {
        due("ANEW's hour of " + text, told(text).anew(0, bench, true), hour);
        due("ANEW's HARM of " + text, told(text).anew(0, bench, false), harm);
    }

    private void anewTerm() {
        term(6, "ANEW of a BENCH: the hour, 0 to 47, at which, PAINTED then, HARM is least, of several the first; that HARM.");
        anewHour(THREE, 0, 0, 7);
        // The SHEEP misses nothing of a BENCH that is not DRY at hour 20.
        anewHour(THREE, 1, 15, 13);
        anewHour(PAINT + "comer card 2 0 1 9 1;comer card 5 0 1 9 1;", 0, 6, 0);
        anewHour("rate 0 47 0;bench 1;painted 0 9;comer card 46 0 1 9 1;", 0, 47, 0);
        anewHour("rate 0 47 0;bench 1;comer touch 46 0 9 9 4;comer card 47 0 9 6 4;", 0, 47, 6);
        anewHour("rate 0 47 0;bench 1;painted 0 9;comer card 47 0 1 9 1;", 0, 0, 9);
        anewHour("bench 1;painted 0 20;", 0, 0, 0);
        // A SHEEP that finds it WET misses nothing, so it is to be PAINTED late enough, not before it comes.
        anewHour(PAINT + "comer sheep 30 1 9 1 1;", 1, 25, 0);
        // The CARD is as told: the one who BELIEVES it misses nothing where it is not DRY yet.
        anewHour(PAINT + "card 1 20 30;comer card 20 1 9 9 1;comer card 12 1 1 9 1;", 1, 15, 0);
    }

    private void worst(String text, int who, int much) {
        due("WORST of " + text, told(text).spare(0, 2), who);
        due("how much of " + text, told(text).spare(0, 3), much);
    }

    private void worstTerm() {
        term(6, "WORST: the COMER who costs and misses most, of several the least; how much.");
        worst(THREE, 0, 9);
        worst(PAINT + "comer sheep 20 1 7 1 1;comer touch 8 0 5 5 4;", 0, 7);
        worst(PAINT + "comer touch 8 0 5 5 4;comer sheep 20 1 7 1 1;", 1, 7);
        worst(PAINT + "comer touch 8 0 5 5 4;comer sheep 20 1 7 1 1;comer card 8 0 3 6 1;", 1, 7);
        worst(PAINT + "comer touch 8 0 5 5 4;comer sheep 20 1 7 1 1;comer card 8 0 3 7 1;", 1, 7);
        worst(PAINT + "comer touch 8 0 5 5 4;comer sheep 20 1 7 1 1;comer card 8 0 3 8 1;", 2, 8);
        worst(PAINT + "comer card 20 0 9 9 9;comer touch 20 0 9 9 9;", 0, 0);
        worst(PAINT + "comer card 20 0 9 9 9;".repeat(13) + "comer touch 8 0 9 9 1;", 13, 1);
        worst(PAINT + "comer best 8 0 1 9 9;", 0, 0);
        // By what he did, not by what HARM there is without him.
        worst(PAINT + "comer card 8 0 1 1 1;comer sheep 8 0 1 9 1;comer sheep 8 0 1 9 1;", 1, 9);
    }

    private void otherwise() {
        promise(25, "Of COMER k, what 0: HAS, 1: WAIT's hours, 2: what comes of it, 3: AWAY's BENCH, 4: HAS there.");
        WetPaint x = told("", THREE + "comer card 8 0 9 9 1;");
        row("COMER 0", what -> x.otherwise(1, 0, what), NO_WORTH, -6, 3, 0, 1, 3);
        row("COMER 1", what -> x.otherwise(1, 1, what), NO_WORTH, -4, 3, 2, 1, 5);
        row("COMER 2", what -> x.otherwise(1, 2, what), NO_WORTH, 0, 0, 0, 0, 7);
        row("COMER 3", what -> x.otherwise(1, 3, what), NO_WORTH, 0, 3, 6, 1, 9);
        promise(25, "-1000000: there is none such (of either), or for another what.");
        for (int what = 0; what < 5; what++) {
            int asked = what;
            WetPaint y = told("", THREE);
            outside("by COMER, what " + what, k -> y.otherwise(1, k, asked), NO_WORTH, 0, 2);
            outside("by PARK, what " + what, park -> y.otherwise(park, 0, asked), NO_WORTH, 1, 1);
        }
        due("what 5", x.otherwise(1, 0, 5), NO_WORTH);
        due("what -1", x.otherwise(1, 0, -1), NO_WORTH);
    }

    private void spare() {
        promise(26, "What 0: SPARE, 1: that HARM, 2: WORST, 3: how much (NONE: no COMERS).");
        WetPaint x = told("", THREE);
        row("spare", what -> x.spare(1, what), NO_SUCH, 0, 11, 0, 9);
        row("spare, no COMERS", what -> x.spare(0, what), NO_SUCH, NONE, NONE, NONE, NONE);
        WetPaint y = told(PAINT + "pigeon 0 8;");
        row("spare, PIGEONS alone", what -> y.spare(0, what), NO_SUCH, NONE, NONE, NONE, NONE);
        promise(26, "-2: there is none such, or for another what.");
        for (int what = 0; what < 4; what++) {
            int asked = what;
            outside("by PARK, what " + what, park -> y.spare(park, asked), NO_SUCH, 0, 0);
        }
        due("what 4", x.spare(1, 4), NO_SUCH);
        due("what -1", x.spare(1, -1), NO_SUCH);
        due("what 4, no COMERS", x.spare(0, 4), NO_SUCH);
    }

    private void anew() {
        promise(27, "ANEW of a BENCH: HARM, or (hour) the hour.");
        WetPaint x = told("", PAINT + "comer card 2 0 1 9 1;comer card 5 0 1 9 1;comer sheep 30 1 9 1 1;");
        for (int twice = 0; twice < 2; twice++) {
            due("HARM of 0", x.anew(1, 0, false), 9);
            due("hour of 0", x.anew(1, 0, true), 6);
            due("HARM of 1", x.anew(1, 1, false), 9);
            due("hour of 1", x.anew(1, 1, true), 25);
        }
        due("PAINTED stays as told", x.bench(1, 1, 1), NONE);
        promise(27, "-2: there is none such (of either).");
        for (boolean hour : new boolean[] {false, true}) {
            outside("by BENCH", bench -> x.anew(1, bench, hour), NO_SUCH, 0, 1);
            outside("by PARK", park -> x.anew(park, 0, hour), NO_SUCH, 1, 1);
        }
    }
}
