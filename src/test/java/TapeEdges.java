/** The tape, its tokens, and objects as a whole: promises 1 to 5 and 28 to 30, of term 1 THE TAPE and TOKENS. */
final class TapeEdges extends Edges {
    private static final int BLANKS = 0x20202020;
    private static final String[] TEXTS = {"bench 4;", "deep 0 1;", "alarm 1 2 3 4;", "halves 0 1 2;"};

    TapeEdges(Check check, Doc doc) {
        super(check, doc);
    }

    @Override
    void run() {
        newObject();
        theTape();
        tokens();
        feed();
        end();
        text();
        refused();
        fault();
        count();
        images();
        close();
    }

    private void newObject() {
        promise(1, "No PARKS, SIGHTS, ALARMS, PLANS; no images.");
        WetPaint x = new WetPaint();
        for (int sort = 0; sort < 4; sort++) {
            due("count of " + sort, x.count(sort), 0);
        }
        due("park", x.park(0, 0), NONE);
        due("sight", x.sight(0, NONE, 0), NO_SUCH);
        due("alarm", x.alarm(0, NONE, 0), NO_SUCH);
        due("plan", x.plan(0, NONE, 0), NO_SUCH);
        for (int k = 0; k < 3; k++) {
            due("again of " + k, x.again(k), false);
        }
        due("fault", x.fault(0), 0);
        due("place", x.fault(1), NONE);
        due("a byte of the tape", x.end(1), NONE);
        due("nothing of the tape", x.end(0), 0);
        // What another object was told is nothing to a new one.
        WetPaint other = told("bench 1;");
        other.image(0);
        due("count of a new one", new WetPaint().count(0), 0);
        due("again of a new one", new WetPaint().again(0), false);
    }

    private void theTape() {
        term(1, "THE TAPE has at most 600 bytes.");
        due("text of 600 bytes", fine(0, "bench 1;" + " ".repeat(584) + "fresh 9;").park(0, 0), 9);
        marked(0, "bench 1;" + " ".repeat(591) + "^?", 1);
        marked(0, "bench 1;" + " ".repeat(585) + "fresh 9^", 1);
        WetPaint x = tapeOf(600);
        due("600", x.end(600), 600);
        due("601", x.end(601), NONE);
    }

    /** A tape of so many bytes, all blanks. */
    private static WetPaint tapeOf(int bytes) {
        WetPaint x = new WetPaint();
        for (int had = 0; had < bytes; had += 20) {
            x.feed(BLANKS, BLANKS, BLANKS, BLANKS, BLANKS);
        }
        x.end(bytes);
        return x;
    }

    private void tokens() {
        term(1, "TOKENS, as long as they go,");
        marked(0, "^benchbench 1;", 1);
        marked(0, "^benc h 1;", 1);
        marked(0, "bench ^1234;", 1);
        due("a number as long as it goes", fine(0, "rate 0 47 5;belief 100;").park(0, 2), 100);
        fine(0, "bench1;comer card1 0 2 3 4;");
        fine(0, "painted0 1;bench1;");
        term(1, "blanks (10, 32) between:");
        fine(0, "");
        fine(0, " ");
        fine(0, "\n");
        fine(0, "\n \n  bench\n \n1 \n ;\n\n bench\n\n2;   ");
        for (int b = 0; b < 256; b++) {
            String odd = "bench" + (char) b + "3;";
            boolean blank = b == 10 || b == 32;
            boolean digit = b >= '0' && b <= '9';
            boolean letter = b >= 'a' && b <= 'z';
            // A digit is of the number, which is no SLATS then, but 0; a letter is of the word.
            int fault = blank || b == '0' ? 0 : digit ? 2 : 1;
            fault(0, odd, fault, fault == 0 ? NONE : letter ? 0 : 5);
        }
        term(1, "words, rows of letters a .. z;");
        for (int b = 0; b < 256; b++) {
            boolean letter = b >= 'a' && b <= 'z';
            boolean blank = b == 10 || b == 32;
            boolean digit = b >= '0' && b <= '9';
            fault(0, "bench" + (char) b + " 3;", blank ? 0 : 1, blank ? NONE : letter ? 0 : digit ? 7 : 5);
            fault(0, "fresh 9;" + (char) b + "bench 3;", blank ? 0 : 1, blank ? NONE : 8);
        }
        marked(0, "^Bench 1;", 1);
        marked(0, "^BENCH 1;", 1);
        marked(0, "^bencH 1;", 1);
        term(1, "NUMBERS, 1 to 3 digits;");
        for (int b = 0; b < 256; b++) {
            boolean digit = b >= '0' && b <= '9';
            boolean blank = b == 10 || b == 32;
            boolean belief = digit && b <= '1' || blank;
            fault(0, "belief " + (char) b + "00;", belief ? 0 : digit ? 2 : 1, belief ? NONE : 7);
        }
        fine(0, "belief 7;");
        fine(0, "belief 07;");
        due("three digits", fine(0, "belief 007;").park(0, 2), 7);
        marked(0, "belief ^0007;", 1);
        marked(0, "belief ^00000000000000000000;", 1);
        marked(0, "belief ^;", 1);
        marked(0, "belief ^-1;", 1);
        marked(0, "belief ^+1;", 1);
        term(1, "; one byte.");
        fine(0, "bench 1;bench 1 ;");
        marked(0, "bench 1;^;", 1);
        marked(0, "bench 1^,", 1);
        marked(0, "bench 1^:", 1);
    }

    private void feed() {
        promise(2, "The tape: twenty bytes come behind it, of each number the highest first: how many it has.");
        for (int at = 0; at < 40; at++) {
            int[] n = new int[10];
            for (int i = 0; i < 40; i++) {
                n[i / 4] = n[i / 4] << 8 | (i == at ? 255 : 32);
            }
            WetPaint x = new WetPaint();
            due("twenty", x.feed(n[0], n[1], n[2], n[3], n[4]), 20);
            due("forty", x.feed(n[5], n[6], n[7], n[8], n[9]), 40);
            due("the odd byte is a FAULT", x.text(0, NONE), NONE);
            due("the odd byte's place", x.fault(1), at);
        }
        WetPaint y = new WetPaint();
        y.feed(0x62656e63, 0x6820333b, 0x7061696e, 0x74656420, 0x3020353b);
        due("text of five numbers", y.text(0, NONE), 0);
        due("SLATS", y.bench(0, 0, 0), 3);
        due("PAINTED", y.bench(0, 0, 1), 5);
        promise(2, "NONE, and nothing comes, if there would be more than 600.");
        for (int had = 0; had <= 600; had++) {
            WetPaint x = tapeOf(had);
            boolean room = had <= 580;
            due("feed behind " + had, x.feed(-1, -1, -1, -1, -1), room ? had + 20 : NONE);
            due("a byte more", x.end(had + 1), room ? had + 1 : NONE);
            due("as it was", x.end(had), had);
            due("blanks alone", x.text(0, NONE), 0);
        }
    }

    private void end() {
        promise(3, "The tape has its first n bytes alone: n.");
        for (int n = 0; n <= 20; n++) {
            WetPaint x = new WetPaint();
            x.feed(BLANKS, BLANKS, BLANKS, BLANKS, BLANKS);
            due("end of " + n, x.end(n), n);
            due("end of one more", x.end(n + 1), NONE);
            due("the next twenty stand behind it", x.feed(-1, -1, -1, -1, -1), n + 20);
            due("which is a FAULT", x.text(0, NONE), NONE);
            due("at", x.fault(1), n);
        }
        WetPaint full = tapeOf(600);
        due("all of a full tape", full.end(600), 600);
        due("feed then", full.feed(0, 0, 0, 0, 0), NONE);
        due("all but twenty", full.end(580), 580);
        due("feed then", full.feed(0, 0, 0, 0, 0), 600);
        promise(3, "NONE if it has not so many, or n is below 0.");
        WetPaint x = tapeOf(20);
        outside("end", x::end, NONE, 0, 20);
        due("nothing was cut off", x.end(20), 20);
        due("nothing can be cut off nothing", new WetPaint().end(1), NONE);
        due("nothing is left of nothing", new WetPaint().end(0), 0);
        due("nor of nothing by -1", new WetPaint().end(-1), NONE);
    }

    private void text() {
        promise(4, "The tape is taken (and is empty then) as a text of a sort, a further one (at NONE), or in the place of one: its number.");
        for (int sort = 0; sort < 4; sort++) {
            WetPaint x = new WetPaint();
            due("a further one", Check.text(x, sort, NONE, TEXTS[sort]), 0);
            due("the tape is empty", x.end(1), NONE);
            due("in the place of 0", Check.text(x, sort, 0, TEXTS[sort] + TEXTS[sort]), 0);
            due("count", x.count(sort), 1);
            due("two of them", rows(x, sort, 0), 2);
            due("a further one, empty", x.text(sort, NONE), 1);
            due("none of them", rows(x, sort, 1), 0);
            due("in the place of 1", Check.text(x, sort, 1, TEXTS[sort]), 1);
            due("one of them", rows(x, sort, 1), 1);
            due("0 as it was", rows(x, sort, 0), 2);
            due("count", x.count(sort), 2);
            due("feed on the empty tape", x.feed(0, 0, 0, 0, 0), 20);
        }
        promise(4, "NONE: a FAULT.");
        for (int sort = 0; sort < 4; sort++) {
            WetPaint x = new WetPaint();
            due("a FAULT", Check.text(x, sort, NONE, TEXTS[sort] + "?"), NONE);
            due("nothing is there", x.count(sort), 0);
            due("the tape is empty", x.end(1), NONE);
            due("without", Check.text(x, sort, NONE, TEXTS[sort]), 0);
            due("a FAULT in its place", Check.text(x, sort, 0, TEXTS[sort] + TEXTS[sort] + "?"), NONE);
            due("as it was", rows(x, sort, 0), 1);
            due("a further one's FAULT", Check.text(x, sort, NONE, "?"), NONE);
            due("count", x.count(sort), 1);
        }
        due("a number that can't be", Check.text(new WetPaint(), 0, NONE, "bench 0;"), NONE);
        due("one too many", Check.text(new WetPaint(), 0, NONE, "bench 1;".repeat(7)), NONE);
        due("a BENCH that is not there", Check.text(new WetPaint(), 0, NONE, "pigeon 0 0;"), NONE);
        due("STICKY above FRESH", Check.text(new WetPaint(), 0, NONE, "fresh 7;"), NONE);
    }

    /** How many BENCHES, PRINTS, ALARMS, HALVES. */
    private static int rows(WetPaint x, int sort, int k) {
        switch (sort) {
            case 0: return x.park(k, 3);
            case 1: return x.sight(k, NONE, 0);
            case 2: return x.alarm(k, NONE, 0);
            default: return x.plan(k, NONE, 0);
        }
    }

    private void refused() {
        promise(4, "-2: there is none such, there are as many as may be, or no such sort (no text is read then, FAULT 0).");
        for (int sort = 0; sort < 4; sort++) {
            WetPaint x = new WetPaint();
            refuse(x, sort, 0, TEXTS[sort]);
            refuse(x, sort, 1, TEXTS[sort]);
            due("one", Check.text(x, sort, NONE, TEXTS[sort]), 0);
            refuse(x, sort, 1, TEXTS[sort] + TEXTS[sort]);
            for (int at : new int[] {-2, -3, 2, 3}) {
                refuse(x, sort, at, TEXTS[sort]);
            }
            for (int at : FAR) {
                refuse(x, sort, at, TEXTS[sort]);
            }
            due("another", Check.text(x, sort, NONE, TEXTS[sort]), 1);
            refuse(x, sort, NONE, TEXTS[sort]);
            refuse(x, sort, 2, TEXTS[sort]);
            due("two", x.count(sort), 2);
            due("0 as it was", rows(x, sort, 0), 1);
            due("1 as it was", rows(x, sort, 1), 1);
        }
        WetPaint y = new WetPaint();
        for (int sort : new int[] {-1, -2, 4, 5, 8, Integer.MIN_VALUE, Integer.MAX_VALUE}) {
            refuse(y, sort, NONE, "bench 4;");
            refuse(y, sort, 0, "");
        }
    }

    private void refuse(WetPaint x, int sort, int at, String text) {
        Check.text(x, 0, x.count(0) == 0 ? NONE : 0, "?");
        Check.feed(x, text, 0);
        due("text(" + sort + ", " + at + ")", x.text(sort, at), NO_SUCH);
        due("FAULT 0", x.fault(0), 0);
        due("its place", x.fault(1), NONE);
        due("the tape is taken", x.end(1), NONE);
    }

    private void fault() {
        promise(5, "Of the latest text(), what 0: the FAULT, 0 without, 1: its place, NONE without.");
        String[] texts = {"bench 1;?", "bench 0;", "bench 1;bench 1;bench 1;bench 1;bench 1;bench 1;bench 1;", "painted 3 1;", "sticky 21;"};
        int[] places = {8, 6, 48, 12, 10};
        WetPaint x = new WetPaint();
        for (int i = 0; i < texts.length; i++) {
            due("a FAULT", Check.text(x, 0, x.count(0) == 0 ? NONE : 0, texts[i]), NONE);
            due("FAULT", x.fault(0), i + 1);
            due("place", x.fault(1), places[i]);
            Check.feed(x, "bench 1;", 0);
            due("FAULT of the latest text yet", x.fault(0), i + 1);
            due("without", x.text(0, x.count(0) == 0 ? NONE : 0), 0);
            due("FAULT 0", x.fault(0), 0);
            due("no place", x.fault(1), NONE);
        }
        promise(5, "NONE for another what.");
        Check.text(x, 0, 0, "bench 0;");
        outside("fault", x::fault, NONE, 0, 1);
    }

    private void count() {
        promise(28, "How many there are of a sort.");
        for (int sort = 0; sort < 4; sort++) {
            WetPaint x = new WetPaint();
            for (int n = 0; n < 3; n++) {
                for (int other = 0; other < 4; other++) {
                    due("count of " + other, x.count(other), other == sort ? n : 0);
                }
                x.text(sort, NONE);
            }
            due("no more than two", x.count(sort), 2);
            x.text(sort, 0);
            due("as many when in the place of one", x.count(sort), 2);
        }
        promise(28, "-2 for another one.");
        outside("count", told("bench 1;")::count, NO_SUCH, 0, 3);
    }

    private void images() {
        promise(29, "Image k (0 .. 2) is all that is told (the tape, the FAULT, too), as it is now: true;");
        for (int k = 0; k < 3; k++) {
            WetPaint x = everything();
            due("tape of eight bytes", x.end(8), 8);
            due("image " + k, x.image(k), true);
            due("image " + k + " changes nothing", x.end(8), 8);
            seen(x, 1, 2, 6);
            change(x);
            seen(x, 2, 0, NONE);
            due("again " + k, x.again(k), true);
            due("the tape as it was", x.end(9), NONE);
            seen(x, 1, 2, 6);
            due("the tape's bytes", x.text(0, NONE), 1);
            due("SLATS of its text", x.bench(1, 0, 0), 7);
            due("as it is now", x.image(k), true);
            x.text(0, 0);
            due("again as it was then", x.again(k), true);
            due("two parks", x.count(0), 2);
            due("benches", x.park(0, 3), 6);
        }
        WetPaint x = told("");
        for (int k = 0; k < 3; k++) {
            Check.text(x, 0, 0, "belief " + k + ";");
            due("image " + k, x.image(k), true);
        }
        for (int k : new int[] {2, 0, 1, 1, 0, 2}) {
            due("again " + k, x.again(k), true);
            due("each has its own", x.park(0, 2), k);
        }
        promise(29, "false for another k.");
        WetPaint y = told("belief 9;");
        for (int k : new int[] {-1, -2, 3, 4, 256, Integer.MIN_VALUE, Integer.MAX_VALUE}) {
            due("image " + k, y.image(k), false);
            due("again " + k, y.again(k), false);
        }
        for (int k = 0; k < 3; k++) {
            due("none of the three", y.again(k), false);
        }
        again();
    }

    private void again() {
        promise(30, "All that is as image k has it: true;");
        WetPaint x = everything();
        // Fewer, more and as many of each sort come back as they were; so does an image of nothing.
        WetPaint nothing = new WetPaint();
        due("image of nothing", nothing.image(1), true);
        due("a text", Check.text(nothing, 0, NONE, "bench 1;"), 0);
        due("again nothing", nothing.again(1), true);
        due("no park", nothing.count(0), 0);
        due("nor one that can be asked", nothing.park(0, 0), NONE);
        due("image 0", x.image(0), true);
        change(x);
        due("image 2", x.image(2), true);
        for (int twice = 0; twice < 2; twice++) {
            due("again 0", x.again(0), true);
            seen(x, 1, 2, 6);
            due("again 2", x.again(2), true);
            seen(x, 2, 0, NONE);
        }
        promise(30, "false if there is none such.");
        due("again 1", x.again(1), false);
        seen(x, 2, 0, NONE);
        for (int k : FAR) {
            due("again " + k, x.again(k), false);
        }
        due("again -1", x.again(-1), false);
        due("again 3", x.again(3), false);
        seen(x, 2, 0, NONE);
    }

    /** One text of each sort, each with many numbers, then one with a FAULT; a further text of a park is on the tape. */
    private WetPaint everything() {
        WetPaint x = told("fresh 51;sticky 50;belief 49;rate 0 47 9;" + "bench 3;".repeat(6) + "painted 5 47;card 5 46 47;"
            + "maybe 4 3 2;".repeat(8) + "pigeon 3 2;".repeat(4) + "comer best 9 5 4 3 2;".repeat(14));
        with(x, 1, "deep 5 47;".repeat(10));
        with(x, 2, "alarm 1 2 3 4;".repeat(8));
        with(x, 3, "halves 5 4 3;".repeat(6));
        due("a FAULT", Check.text(x, 0, NONE, "bench 0;"), NONE);
        Check.feed(x, "bench 7;", 0);
        due("of each sort", x.count(0) + x.count(1) + x.count(2) + x.count(3), 4);
        return x;
    }

    private static void change(WetPaint x) {
        x.end(0);
        String[] other = {"bench 1;", "dust 0 0;", "alarm 9 9 9 9;", "halves 1 1 1;"};
        for (int sort = 0; sort < 4; sort++) {
            Check.text(x, sort, 0, other[sort]);
            Check.text(x, sort, NONE, other[sort] + other[sort].repeat(2));
        }
    }

    /** What is told as everything() has it (one of each sort), or as change() leaves it (two). */
    private void seen(WetPaint x, int n, int fault, int place) {
        boolean full = n == 1;
        for (int sort = 0; sort < 4; sort++) {
            due("count of " + sort, x.count(sort), n);
            due("rows of 1 of " + sort, rows(x, sort, 1), full ? sort == 0 ? NONE : NO_SUCH : 3);
        }
        due("FAULT", x.fault(0), fault);
        due("place", x.fault(1), place);
        int[] park = full ? new int[] {51, 50, 49, 6, 8, 4, 14} : new int[] {20, 8, 0, 1, 0, 0, 0};
        for (int what = 0; what < park.length; what++) {
            due("park " + what, x.park(0, what), park[what]);
        }
        due("RATE of 0", x.park(0, 10), full ? 9 : 2);
        due("RATE of 47", x.park(0, 57), full ? 9 : 2);
        due("SLATS", x.bench(0, full ? 5 : 0, 0), full ? 3 : 1);
        due("PAINTED", x.bench(0, full ? 5 : 0, 1), full ? 47 : NONE);
        due("CARD from", x.bench(0, full ? 5 : 0, 2), full ? 46 : NONE);
        due("CARD to", x.bench(0, full ? 5 : 0, 3), full ? 47 : NONE);
        due("WETNESS", x.wet(0, full ? 5 : 0, 47, 0), full ? 51 : 0);
        due("MAYBE", x.told(0, 0, 7, 2), full ? 2 : NONE);
        due("PIGEON", x.told(0, 1, 3, 1), full ? 2 : NONE);
        due("COMER", x.told(0, 2, 13, 5), full ? 2 : NONE);
        due("PRINT", x.sight(0, 0, 0), full ? 2 : 0);
        due("ALARM", x.alarm(0, 0, 1), full ? 2 : 9);
        due("HALVES", x.plan(0, 0, 0), full ? 5 : 1);
    }
}
