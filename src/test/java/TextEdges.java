/** Texts and their FAULTS: of term 1 what a text of each sort is, what strikes, and which FAULT goes ahead of which. */
final class TextEdges extends Edges {
    private static final String[] LINES = {"rate 3 4 5;", "fresh 20;", "sticky 8;", "belief 1;", "bench 1;", "painted 0 1;", "card 0 1 2;",
        "maybe 0 1 2;", "pigeon 0 1;", "comer card 1 0 2 3 4;", "deep 0 1;", "faint 0 1;", "dust 0 1;", "alarm 1 2 3 4;", "halves 0 1 2;"};
    private static final String SIX = "bench 1;bench 1;bench 1;bench 1;bench 1;bench 1;";

    TextEdges(Check check, Doc doc) {
        super(check, doc);
    }

    @Override
    void run() {
        parkText();
        numbersOfPark();
        habits();
        otherTexts();
        strike();
        further();
        noTextGoesOn();
        numbersThatCantBe();
        oneTooMany();
        atTheEnd();
        close();
    }

    private static int sortOf(int line) {
        return line < 10 ? 0 : line < 13 ? 1 : line - 11;
    }

    private void parkText() {
        term(1, "A PARK's text: {('rate' NUMBER NUMBER NUMBER | ('fresh' | 'sticky' | 'belief') NUMBER | 'bench' NUMBER | 'painted' NUMBER NUMBER"
            + " | 'card' NUMBER NUMBER NUMBER | 'maybe' NUMBER NUMBER NUMBER | 'pigeon' NUMBER NUMBER"
            + " | 'comer' HABIT NUMBER NUMBER NUMBER NUMBER NUMBER) ';'}");
        due("no line at all", fine(0, "").park(0, 3), 0);
        for (int line = 0; line < 10; line++) {
            fine(0, "bench 1;" + LINES[line]);
            fine(0, "bench 1;" + LINES[line].repeat(4));
            pieces(0, LINES[line]);
        }
        for (int line = 10; line < LINES.length; line++) {
            marked(0, "bench 1;^" + LINES[line], 1);
        }
        fine(0, String.join("", java.util.Arrays.copyOf(LINES, 10)));
    }

    /** A line that ends early, has a token more, or one of another kind, goes on no further than to it. */
    private void pieces(int sort, String line) {
        String[] tokens = line.replace(";", " ;").split(" ");
        String ahead = "";
        for (int i = 0; i < tokens.length; i++) {
            marked(sort, ahead + (ahead.isEmpty() ? "" : "^"), ahead.isEmpty() ? 0 : 1);
            for (String token : new String[] {"1", ";", "rates", "cards", "?", "1111"}) {
                boolean alike = token.equals(tokens[i]) || Character.isDigit(tokens[i].charAt(0)) && token.equals("1") || i == 0 && token.equals(";");
                if (!alike) {
                    marked(sort, ahead + "^" + token + " 1 1 1 1 1 1;", 1);
                }
            }
            ahead += tokens[i] + " ";
        }
        // Each word as it stands, letter by letter: none other, none shorter, none longer.
        String word = tokens[0];
        for (int i = 0; i < word.length(); i++) {
            marked(sort, "^" + word.substring(0, i) + "x" + word.substring(i + 1) + line.substring(word.length()), 1);
            marked(sort, "^" + word.substring(0, i) + word.substring(i + 1) + line.substring(word.length()), 1);
        }
        marked(sort, "^;" + line, 1);
        marked(sort, ahead + "^;", 1);
        marked(sort, ahead.replace(" ;", " ^7 ;"), 1);
    }

    private void numbersOfPark() {
        term(1, "(rate: from an hour up to one, not ahead of it, a RATE; bench: SLATS; painted: a BENCH, an hour;"
            + " card: a BENCH, from an hour up to one, not ahead of it; maybe: a BENCH, an hour, a weight; pigeon: a BENCH, an hour;"
            + " comer: an hour, a BENCH, WORTH, STAIN, TOUCH;");
        numbers(0, "rate 17 # 0;", 17, 47);
        numbers(0, "rate 47 # 0;", 47, 47);
        numbers(0, "bench 1;card 0 17 #;", 17, 47);
        numbers(0, "bench 1;card 0 47 #;", 47, 47);
        WetPaint rate = told("rate 17 19 7;rate 30 30 8;");
        for (int h = 0; h < 48; h++) {
            due("RATE of " + h, rate.park(0, 10 + h), h >= 17 && h <= 19 ? 7 : h == 30 ? 8 : 2);
        }
        due("a CARD up to an hour hangs at it", told("bench 1;card 0 5 6;comer card 6 0 1 1 1;").did(0, 0, 4), 1);
        due("but not behind it", told("bench 1;card 0 5 6;comer card 7 0 1 1 1;").did(0, 0, 4), 0);
        due("from an hour on it hangs at it", told("bench 1;card 0 5 6;comer card 5 0 1 1 1;").did(0, 0, 4), 1);
        due("but not ahead of it", told("bench 1;card 0 5 6;comer card 4 0 1 1 1;").did(0, 0, 4), 0);
        due("of one hour alone", told("bench 1;card 0 5 5;comer card 5 0 1 1 1;").did(0, 0, 4), 1);
        WetPaint x = told(SIX + "painted 5 4;card 3 2 6;maybe 4 5 6;pigeon 3 7;comer touch 8 2 3 4 5;");
        due("painted", x.bench(0, 5, 1), 4);
        row("card", what -> x.bench(0, 3, what), NO_SUCH, 1, NONE, 2, 6);
        row("maybe", what -> x.told(0, 0, 0, what), NONE, 4, 5, 6);
        row("pigeon", what -> x.told(0, 1, 0, what), NONE, 3, 7);
        row("comer", what -> x.told(0, 2, 0, what), NONE, 1, 8, 2, 3, 4, 5);
        term(1, "BENCHES are 0 .. 5).");
        for (String line : new String[] {"painted # 0;", "card # 0 0;", "maybe # 0 1;", "pigeon # 0;", "comer card 0 # 0 0 0;"}) {
            numbers(0, SIX + line, 0, 5);
        }
    }

    private void habits() {
        term(1, "HABIT: 'card' | 'touch' | 'print' | 'sheep' | 'best'.");
        String[] habits = {"card", "touch", "print", "sheep", "best"};
        for (int i = 0; i < 5; i++) {
            due("HABIT of " + habits[i], fine(0, "bench 1;comer " + habits[i] + " 0 0 0 0 0;").told(0, 2, 0, 0), i);
            marked(0, "bench 1;comer ^" + habits[i] + "s 0 0 0 0 0;", 1);
            marked(0, "bench 1;comer " + habits[i] + " ^" + habits[i] + " 0 0 0 0 0;", 1);
            if (i > 0) {
                marked(0, "^" + habits[i] + " 0 0 0;", 1);
            }
            for (int letter = 0; letter < habits[i].length(); letter++) {
                String other = habits[i].substring(0, letter) + "x" + habits[i].substring(letter + 1);
                marked(0, "bench 1;comer ^" + other + " 0 0 0 0 0;", 1);
            }
        }
        for (String word : new String[] {"comer", "bench", "deep", "a", "0", "4", "?"}) {
            marked(0, "bench 1;comer ^" + word + " 0 0 0 0 0;", 1);
        }
    }

    private void otherTexts() {
        term(1, "A SIGHT's text: {('deep' | 'faint' | 'dust') NUMBER NUMBER ';'}.");
        texts(1);
        WetPaint x = fine(1, "deep 1 2;faint 3 4;dust 5 6;");
        for (int k = 0; k < 3; k++) {
            int asked = k;
            row("print " + k, what -> x.sight(0, asked, what), NO_SUCH, 2 - k, 2 * k + 1, 2 * k + 2);
        }
        term(1, "ALARMS' text: {'alarm' NUMBER NUMBER NUMBER NUMBER ';'} (TRUE, OF, LOSS, TOIL).");
        texts(2);
        WetPaint y = fine(2, "alarm 1 2 99 98;");
        for (int what = 0; what < 4; what++) {
            due("alarm what " + what, y.alarm(0, 0, what), new int[] {1, 2, 99, 98}[what]);
        }
        term(1, "A PLAN's text: {'halves' NUMBER NUMBER NUMBER ';'}.");
        texts(3);
        WetPaint z = fine(3, "halves 1 2 3;");
        row("halves", what -> z.plan(0, 0, what), NO_SUCH, 1, 2, 3);
    }

    /** Lines of its own sort are a text's, as many as there be; those of all other sorts are none of it. */
    private void texts(int sort) {
        fine(sort, "");
        for (int line = 0; line < LINES.length; line++) {
            if (sortOf(line) == sort) {
                fine(sort, LINES[line]);
                fine(sort, LINES[line].repeat(3));
                pieces(sort, LINES[line]);
            } else {
                marked(sort, "^" + LINES[line], 1);
            }
        }
    }

    private void strike() {
        term(1, "Later ones strike,");
        WetPaint x = told("fresh 9;fresh 60;sticky 60;sticky 7;belief 5;belief 6;rate 0 47 1;rate 3 8 5;rate 8 9 6;bench 1;painted 0 9;painted 0 3;"
            + "card 0 1 2;card 0 8 9;");
        int[] park = {60, 7, 6};
        for (int what = 0; what < 3; what++) {
            due("park " + what, x.park(0, what), park[what]);
        }
        for (int h = 0; h < 48; h++) {
            due("RATE of " + h, x.park(0, 10 + h), h == 8 || h == 9 ? 6 : h >= 3 && h < 8 ? 5 : 1);
        }
        row("bench", what -> x.bench(0, 0, what), NO_SUCH, 1, 3, 8, 9);
        due("a CARD that was struck hangs no more", told("bench 1;card 0 1 2;card 0 8 9;comer card 1 0 1 1 1;").did(0, 0, 4), 0);
        due("each BENCH has its own", told("bench 1;bench 1;painted 0 9;painted 1 3;").bench(0, 0, 1), 9);
        due("a later text strikes all of an earlier one", Check.text(x, 0, 0, ""), 0);
        int[] plain = {20, 8, 0, 0};
        for (int what = 0; what < 4; what++) {
            due("park " + what, x.park(0, what), plain[what]);
        }
        due("RATE of 8", x.park(0, 18), 2);
    }

    private void further() {
        term(1, "but BENCHES, MAYBES, PIGEONS, COMERS, PRINTS, ALARMS, HALVES, which are further ones.");
        WetPaint x = told("bench 1;".repeat(3) + "maybe 0 0 1;".repeat(3) + "pigeon 0 0;".repeat(3) + "comer card 0 0 0 0 0;".repeat(3));
        for (int what = 3; what < 7; what++) {
            due("alike ones, park " + what, x.park(0, what), 3);
        }
        with(x, 1, "dust 0 0;".repeat(3));
        with(x, 2, "alarm 0 1 0 0;".repeat(3));
        with(x, 3, "halves 0 0 0;".repeat(3));
        due("prints", x.sight(0, NONE, 0), 3);
        due("alarms", x.alarm(0, NONE, 0), 3);
        due("halves", x.plan(0, NONE, 0), 3);
    }

    private void noTextGoesOn() {
        term(1, "FAULTS of all, with places (a token's first byte; the end's):");
        marked(0, "bench 1; ^bank 1;", 1);
        marked(0, "bench \n ^10;", 2);
        marked(0, "bench 1^", 1);
        marked(0, "bench 1 \n ^", 1);
        marked(0, "pigeon 0 0;^", 4);
        marked(0, "pigeon 0 0; \n^", 4);
        marked(0, "fresh 1; ^", 5);
        term(1, "1 the first byte or token with which no text goes on (a longer row of digits is no token).");
        marked(0, "bench 1;^?bench ?;?", 1);
        marked(0, "bench ^1000;", 1);
        marked(0, "bench 1;^1000;", 1);
        marked(0, "bench 1 ^1000;", 1);
        marked(1, "deep 0 1;deep ^1000 0;", 1);
        // It goes ahead of all others, wherever they stand.
        marked(0, "bench 0;^?", 1);
        marked(0, "bench 99;fresh 0;sticky 999;bench ^", 1);
        marked(0, SIX + "bench 1;^bank", 1);
        marked(0, "pigeon 0 0;fresh 1;^;", 1);
        marked(1, "deep 6 48^", 1);
        marked(2, "alarm 21 0 100 100^", 1);
        marked(3, "halves 6 48 48^", 1);
    }

    private void numbersThatCantBe() {
        term(1, "If there is none, the first by place, of one place the least:");
        marked(0, "rate ^48 48 10;", 2);
        marked(0, "bench 1;maybe ^6 48 0;", 2);
        marked(0, "bench 1;comer card ^48 6 10 10 10;", 2);
        marked(0, "fresh ^0;sticky 61;", 2);
        marked(0, SIX + "pigeon 0 ^48;bench 1;", 2);
        marked(0, SIX + "^bench 1;pigeon 0 48;", 3);
        marked(0, SIX + "^bench 0;", 3);
        marked(0, SIX + "^bench 1;bench 1;", 3);
        marked(0, "pigeon 0 0;".repeat(4) + "^pigeon 6 48;", 3);
        marked(1, "deep 0 0;".repeat(9) + "deep 0 ^48;deep 0 0;", 2);
        marked(2, "alarm ^21 0 100 100;", 2);
        marked(3, "halves 0 ^48 48;", 2);
        term(1, "2 a NUMBER that can't be (as above; of alarm OF, if it is below TRUE; a line with such a NUMBER tells its BENCH, MAYBE, PIGEON,"
            + " COMER, PRINT, ALARM, HALVES all the same);");
        marked(0, "rate 5 ^4 0;", 2);
        marked(0, "bench 1;card 0 5 ^4;", 2);
        marked(2, "alarm 5 ^4 0 0;", 2);
        marked(2, "alarm 20 ^19 0 0;", 2);
        marked(2, "alarm 0 ^0 0 0;", 2);
        marked(2, "alarm ^21 20 0 0;", 2);
        fine(2, "alarm 0 1 0 0;");
        fine(2, "alarm 5 5 0 0;");
        // What such a line tells makes no FAULT that is further on the first one; nor does a BENCH that it does not tell.
        marked(0, "bench ^0;bench 1;bench 1;bench 1;bench 1;bench 1;bench 1;", 2);
        marked(0, "bench ^0;pigeon 0 0;", 2);
        marked(0, "bench ^10;pigeon 5 0;fresh 1;", 2);
        marked(0, "bench 1;" + "maybe 0 0 ^0;" + "maybe 0 0 1;".repeat(8), 2);
        marked(1, "dust ^6 0;" + "dust 0 0;".repeat(10), 2);
        marked(3, "halves ^6 0 0;" + "halves 0 0 0;".repeat(6), 2);
    }

    private void oneTooMany() {
        term(1, "3 a 7th BENCH, a 9th MAYBE, a 5th PIGEON, a 15th COMER, an 11th PRINT, a 9th ALARM, 7th HALVES, at its first token.");
        tooMany(0, "", "bench 9;", 7);
        tooMany(0, "bench 1;", "maybe 0 47 9;", 9);
        tooMany(0, "bench 1;", "pigeon 0 47;", 5);
        tooMany(0, "bench 1;", "comer best 47 0 9 9 9;", 15);
        tooMany(1, "", "deep 5 47;", 11);
        tooMany(1, "", "faint 5 47;", 11);
        tooMany(1, "", "dust 5 47;", 11);
        tooMany(2, "", "alarm 20 20 99 99;", 9);
        tooMany(3, "", "halves 5 47 47;", 7);
        marked(1, "deep 0 0;faint 0 0;dust 0 0;".repeat(3) + "dust 0 0;^faint 0 0;", 3);
        marked(0, SIX + "painted 5 0;fresh 9;  \n^bench 1;", 3);
        // Those of other kinds do not count with them.
        fine(0, SIX + "maybe 0 0 1;".repeat(8) + "pigeon 0 0;".repeat(4) + "comer card 0 0 0 0 0;".repeat(14));
        fine(0, "fresh 9;".repeat(30) + "rate 0 0 0;".repeat(20));
    }

    private void tooMany(int sort, String ahead, String line, int th) {
        fine(sort, ahead + line.repeat(th - 1));
        marked(sort, ahead + line.repeat(th - 1) + "^" + line, 3);
        marked(sort, ahead + line.repeat(th - 1) + "\n ^" + line + line, 3);
    }

    private void atTheEnd() {
        term(1, "If there is none of these, at the end's place: 4 of a PARK a BENCH that was told of and is not there; else 5 STICKY above FRESH.");
        for (String line : new String[] {"painted # 1;", "card # 1 2;", "maybe # 1 2;", "pigeon # 1;", "comer card 1 # 2 3 4;"}) {
            for (int bench = 0; bench < 6; bench++) {
                String told = line.replace("#", Integer.toString(bench));
                marked(0, "bench 1;".repeat(bench) + told + "^", 4);
                fine(0, told + "bench 1;".repeat(bench + 1));
                marked(0, told + "fresh 7;" + "^", 4);
                marked(0, told + "fresh ^0;", 2);
            }
        }
        fine(1, "deep 5 1;");
        fine(3, "halves 5 1 2;");
        // Of two that are told of, the one that is not there; a PAINTED that strikes another one does not help.
        marked(0, "bench 1;painted 3 1;painted 0 1;^", 4);
        fine(0, "fresh 8;");
        marked(0, "fresh 7;^", 5);
        marked(0, "sticky 21;^", 5);
        fine(0, "sticky 20;");
        fine(0, "fresh 1;sticky 0;");
        fine(0, "fresh 1;sticky 1;");
        marked(0, "fresh 59;sticky 60;^", 5);
        fine(0, "fresh 7;fresh 8;");
        fine(0, "sticky 60;fresh 60;");
        marked(0, "sticky 21;" + SIX + "^", 5);
        marked(0, "sticky 21;" + SIX + "^bench 1;", 3);
        marked(0, "sticky 21;belief ^101;", 2);
    }
}
