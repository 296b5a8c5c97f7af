/** Promises 1 to 8, 17, 21 (as told), 22, 28 to 30: the tape, texts, FAULTS, what is told, images. */
public final class TextsTest {
    private static final Check check = new Check();
    private static final int NONE = WetPaint.NONE;

    public static void main(String[] args) {
        newObject();
        tape();
        texts();
        refused();
        faults();
        faultsOfNumbers();
        faultsOfCounts();
        park();
        others();
        images();
        check.end("TextsTest");
    }

    private static void newObject() {
        WetPaint x = new WetPaint();
        for (int sort = 0; sort < 4; sort++) {
            check.due("new count " + sort, x.count(sort), 0);
        }
        check.due("count(-1)", x.count(-1), -2);
        check.due("count(4)", x.count(4), -2);
        check.due("new fault(0)", x.fault(0), 0);
        check.due("new fault(1)", x.fault(1), NONE);
        check.due("fault(2)", x.fault(2), NONE);
        check.due("fault(-1)", x.fault(-1), NONE);
        check.due("new again(0)", x.again(0), false);
        check.due("new end(0)", x.end(0), 0);
        check.due("new end(1)", x.end(1), NONE);
        check.due("new park", x.park(0, 0), NONE);
        check.due("new sight", x.sight(0, -1, 0), -2);
        check.due("new alarm", x.alarm(0, -1, 0), -2);
        check.due("new plan", x.plan(0, -1, 0), -2);
        check.due("NONE", WetPaint.NONE, -1);
    }

    private static void tape() {
        WetPaint x = new WetPaint();
        for (int i = 1; i <= 30; i++) {
            check.due("feed " + i, x.feed(0, 0, 0, 0, 0), 20 * i);
        }
        check.due("feed on a full tape", x.feed(0, 0, 0, 0, 0), NONE);
        check.due("end(601)", x.end(601), NONE);
        check.due("end(-1)", x.end(-1), NONE);
        check.due("end(600)", x.end(600), 600);
        check.due("end(581)", x.end(581), 581);
        check.due("feed above 600", x.feed(0, 0, 0, 0, 0), NONE);
        check.due("end(580)", x.end(580), 580);
        check.due("feed up to 600", x.feed(0, 0, 0, 0, 0), 600);
        check.due("text of bytes 0", x.text(0, NONE), NONE);
        check.due("its fault", x.fault(0), 1);
        check.due("its place", x.fault(1), 0);
        check.due("the tape is empty then", x.end(1), NONE);
        // 'b' 'e' 'n' 'c', 'h' ' ' '3' ';' and blanks: of each number the highest byte first.
        check.due("feed bench", x.feed(0x62656e63, 0x6820333b, 0x20202020, 0x20202020, 0x2020200a), 20);
        check.due("text bench", x.text(0, NONE), 0);
        check.due("its slats", x.bench(0, 0, 0), 3);
    }

    private static void texts() {
        WetPaint x = new WetPaint();
        for (int sort = 0; sort < 4; sort++) {
            check.due("text in the place of none", x.text(sort, 0), -2);
            check.due("empty text", x.text(sort, NONE), 0);
            check.due("second empty text", x.text(sort, NONE), 1);
            check.due("third empty text", x.text(sort, NONE), -2);
            check.due("text at 1", x.text(sort, 1), 1);
            check.due("text at 2", x.text(sort, 2), -2);
            check.due("text at -2", x.text(sort, -2), -2);
            check.due("count", x.count(sort), 2);
        }
        check.due("a sort below", x.text(-1, NONE), -2);
        check.due("a sort above", x.text(4, NONE), -2);
        Check.feed(x, "bench 4;", 0);
        check.due("as many as may be", x.text(0, NONE), -2);
        check.due("the tape is taken all the same", x.end(1), NONE);
        check.due("in the place of one", Check.text(x, 0, 1, "bench 4;"), 1);
        check.due("its benches", x.park(1, 3), 1);
        check.due("the other's", x.park(0, 3), 0);
        check.due("a fault", Check.text(x, 0, 1, "bench;"), NONE);
        check.due("what was there stays", x.bench(1, 0, 0), 4);
        check.due("fault", x.fault(0), 1);
        check.due("no text is read", x.text(9, NONE), -2);
        check.due("FAULT 0 then", x.fault(0), 0);
        check.due("its place then", x.fault(1), NONE);
        Check.text(x, 0, 1, "bench;");
        check.due("a text without fault", Check.text(x, 0, 1, "bench 2;"), 1);
        check.due("FAULT 0 again", x.fault(0), 0);
        check.due("place none again", x.fault(1), NONE);
    }

    /** Where text() answers -2 the tape is taken too, but nothing is read: neither a FAULT nor a text comes of it. */
    private static void refused() {
        String[] texts = {"bench 4;", "deep 0 1;", "alarm 1 2 3 4;", "halves 0 1 2;"};
        for (int sort = 0; sort < 4; sort++) {
            WetPaint x = new WetPaint();
            refuse(x, sort, 0, texts[sort]);
            refuse(x, sort, -2, texts[sort]);
            refuse(x, -1, NONE, texts[sort]);
            refuse(x, 4, NONE, texts[sort]);
            check.due("nothing was told", x.count(sort), 0);
            check.due("first", Check.text(x, sort, NONE, texts[sort]), 0);
            refuse(x, sort, 1, texts[sort]);
            check.due("second", Check.text(x, sort, NONE, texts[sort]), 1);
            refuse(x, sort, NONE, texts[sort]);
            refuse(x, sort, NONE, "no text at all");
            refuse(x, sort, 2, texts[sort]);
            check.due("two are told", x.count(sort), 2);
            check.due("in the place of one yet", Check.text(x, sort, 0, texts[sort] + texts[sort]), 0);
        }
        WetPaint x = new WetPaint();
        Check.feed(x, "bench 4;", 0);
        check.due("image with a tape", x.image(0), true);
        check.due("refused", x.text(0, 0), -2);
        check.due("taken", x.end(1), NONE);
        check.due("image without it", x.image(1), true);
        check.due("again with it", x.again(0), true);
        check.due("its length", x.end(8), 8);
        check.due("again without it", x.again(1), true);
        check.due("no length", x.end(1), NONE);
    }

    private static void refuse(WetPaint x, int sort, int at, String text) {
        String call = "text(" + sort + ", " + at + ") of " + text;
        check.due("a fault ahead of " + call, Check.text(x, 0, NONE, "?") == NONE || x.count(0) == 2, true);
        Check.feed(x, text, 0);
        check.due(call, x.text(sort, at), -2);
        check.due("fault of " + call, x.fault(0), 0);
        check.due("place of " + call, x.fault(1), NONE);
        check.due("feed behind " + call, x.feed(0, 0, 0, 0, 0), 20);
        check.due("end(0) behind " + call, x.end(0), 0);
    }

    /** Reads a text that has a FAULT. */
    private static void bad(int sort, String text, int fault, int place) {
        WetPaint x = new WetPaint();
        check.due("text " + text, Check.text(x, sort, NONE, text), fault == 0 ? 0 : NONE);
        check.due("fault of " + text, x.fault(0), fault);
        check.due("place of " + text, x.fault(1), place);
        check.due("count after " + text, x.count(sort), fault == 0 ? 1 : 0);
        check.due("tape after " + text, x.end(1), NONE);
    }

    private static void faults() {
        bad(0, "wet 0 0;", 1, 0);
        bad(0, "fresh 9;benchz 1;", 1, 8);
        bad(0, "fresh 9;bencha 1;", 1, 8);
        bad(0, "fresh 9;bench{1;", 1, 13);
        bad(0, "fresh 9;bench`1;", 1, 13);
        bad(0, "fresh 9;bench/1;", 1, 13);
        bad(0, "fresh 9;bench:1;", 1, 13);
        bad(0, "fresh 9;bench9;", 0, NONE);
        bad(0, "bench 1;deep 0 1;", 1, 8);
        bad(1, "bench 1;", 1, 0);
        bad(2, "halves 0 0 0;", 1, 0);
        bad(3, "alarm 1 1 1 1;", 1, 0);
        bad(0, "bench", 1, 5);
        bad(0, "bench 1", 1, 7);
        bad(0, "bench 1  \n", 1, 10);
        bad(0, ";", 1, 0);
        bad(0, "bench 1;;", 1, 8);
        bad(0, "bench 1 2;", 1, 8);
        bad(0, "bench x;", 1, 6);
        bad(0, "bench 1x;", 1, 7);
        bad(0, "benchX 1;", 1, 5);
        bad(0, "bench 1234;", 1, 6);
        bad(0, "1234;", 1, 0);
        bad(0, "bench 001;", 0, NONE);
        bad(0, "bench1;", 0, NONE);
        bad(0, "\n bench\n1 ;\n", 0, NONE);
        bad(0, "bench\t1;", 1, 5);
        bad(0, "bench \u00e9;", 1, 6);
        bad(0, "Bench 1;", 1, 0);
        bad(0, "benchbench 1;", 1, 0);
        bad(0, "benc 1;", 1, 0);
        bad(0, "comer cat 0 0 0 0 0;", 1, 6);
        bad(0, "comer 0 0 0 0 0 0;", 1, 6);
        bad(0, "comer card 0 0 0 0;", 1, 18);
        bad(0, "comer cards 0 0 0 0 0;", 1, 6);
        // The first goes ahead of all others, wherever it stands.
        bad(0, "bench 0;bench", 1, 13);
        bad(0, "fresh 0;sticky 61;?", 1, 18);
        bad(1, "deep 0 1;faint 0 1;dust 0 1;", 0, NONE);
        for (String habit : new String[] {"card", "touch", "print", "sheep", "best"}) {
            bad(0, "bench 1;comer " + habit + " 47 0 9 9 9;", 0, NONE);
        }
    }

    private static void faultsOfNumbers() {
        bad(0, "rate 5 4 1;", 2, 7);
        bad(0, "rate 5 5 1;", 0, NONE);
        bad(0, "rate 0 48 1;", 2, 7);
        bad(0, "rate 48 48 1;", 2, 5);
        bad(0, "rate 0 1 10;", 2, 9);
        bad(0, "fresh 0;", 2, 6);
        bad(0, "fresh 61;", 2, 6);
        bad(0, "fresh 60;", 0, NONE);
        bad(0, "fresh 60;sticky 60;", 0, NONE);
        bad(0, "sticky 61;", 2, 7);
        bad(0, "sticky 0;", 0, NONE);
        bad(0, "belief 101;", 2, 7);
        bad(0, "belief 100;", 0, NONE);
        bad(0, "bench 0;", 2, 6);
        bad(0, "bench 10;", 2, 6);
        bad(0, "painted 6 0;", 2, 8);
        bad(0, "painted 0 48;", 2, 10);
        bad(0, "bench 1;card 0 5 4;", 2, 17);
        bad(0, "bench 1;card 0 48 4;", 2, 15);
        bad(0, "bench 1;card 0 4 48;", 2, 17);
        bad(0, "bench 1;card 0 4 4;", 0, NONE);
        bad(0, "bench 1;maybe 0 0 0;", 2, 18);
        bad(0, "bench 1;maybe 0 0 10;", 2, 18);
        bad(0, "bench 1;maybe 0 48 1;", 2, 16);
        bad(0, "maybe 6 0 1;", 2, 6);
        bad(0, "pigeon 6 0;", 2, 7);
        bad(0, "bench 1;pigeon 0 48;", 2, 17);
        bad(0, "comer card 48 0 0 0 0;", 2, 11);
        bad(0, "comer card 0 6 0 0 0;", 2, 13);
        bad(0, "comer card 0 0 10 0 0;", 2, 15);
        bad(0, "comer card 0 0 0 10 0;", 2, 17);
        bad(0, "comer card 0 0 0 0 10;", 2, 19);
        bad(1, "deep 6 0;", 2, 5);
        bad(1, "deep 0 48;", 2, 7);
        bad(2, "alarm 21 20 0 0;", 2, 6);
        bad(2, "alarm 5 4 0 0;", 2, 8);
        bad(2, "alarm 5 5 0 0;", 0, NONE);
        bad(2, "alarm 0 0 0 0;", 2, 8);
        bad(2, "alarm 20 21 0 0;", 2, 9);
        bad(2, "alarm 1 1 100 0;", 2, 10);
        bad(2, "alarm 1 1 99 100;", 2, 13);
        bad(3, "halves 6 0 0;", 2, 7);
        bad(3, "halves 0 48 0;", 2, 9);
        bad(3, "halves 0 0 48;", 2, 11);
        bad(3, "halves 5 47 0;", 0, NONE);
        // The first by place.
        bad(0, "fresh 60;belief 999;fresh 0;", 2, 16);
        // Of the end: 4, else 5, and only if there is none of the others.
        bad(0, "painted 0 1;", 4, 12);
        bad(0, "card 0 1 1;", 4, 11);
        bad(0, "maybe 0 1 1;", 4, 12);
        bad(0, "pigeon 0 1; ", 4, 12);
        bad(0, "comer best 0 1 1 1 1;bench 1;", 4, 29);
        bad(0, "painted 0 1;bench 1;", 0, NONE);
        bad(0, "bench 1;sticky 21;", 5, 18);
        bad(0, "bench 1;sticky 21;fresh 21;", 0, NONE);
        bad(0, "fresh 8;", 0, NONE);
        bad(0, "fresh 7;", 5, 8);
        bad(0, "sticky 21;pigeon 0 0;", 4, 21);
        bad(0, "pigeon 0 0;belief 101;", 2, 18);
    }

    private static void faultsOfCounts() {
        bad(0, "bench 1;".repeat(6), 0, NONE);
        bad(0, "bench 1;".repeat(7), 3, 48);
        bad(0, "bench 1;".repeat(6) + "bench 0;", 3, 48);
        bad(0, "bench 1;".repeat(5) + "bench 0;bench 1;", 2, 46);
        bad(0, "bench 1;" + "maybe 0 0 1;".repeat(8), 0, NONE);
        bad(0, "bench 1;" + "maybe 0 0 1;".repeat(9), 3, 8 + 96);
        bad(0, "bench 1;" + "pigeon 0 0;".repeat(4), 0, NONE);
        bad(0, "bench 1;" + "pigeon 0 0;".repeat(5), 3, 8 + 44);
        bad(0, "bench 1;" + "comer card 0 0 0 0 0;".repeat(14), 0, NONE);
        bad(0, "bench 1;" + "comer card 0 0 0 0 0;".repeat(15), 3, 8 + 294);
        bad(0, "pigeon 0 0;".repeat(5), 3, 44);
        bad(0, "pigeon 0 0;".repeat(5) + "x", 1, 55);
        bad(1, "dust 0 0;".repeat(10), 0, NONE);
        bad(1, "dust 0 0;".repeat(9) + "deep 0 0;faint 0 0;", 3, 90);
        bad(2, "alarm 1 1 1 1;".repeat(8), 0, NONE);
        bad(2, "alarm 1 1 1 1;".repeat(9), 3, 112);
        bad(3, "halves 0 0 0;".repeat(6), 0, NONE);
        bad(3, "halves 0 0 0;".repeat(7), 3, 78);
    }

    private static void park() {
        WetPaint x = Check.of("", "rate 3 5 9;rate 5 6 0;rate 47 47 1;fresh 30;fresh 31;sticky 31;belief 7;card 1 4 5;bench 3;"
            + "bench 9;painted 1 4;painted 1 47;card 1 0 47;maybe 1 46 9;maybe 0 2 1;pigeon 1 3;comer sheep 1 0 2 3 4;comer best 9 1 8 7 6;");
        int[] plain = {20, 8, 0, 0, 0, 0, 0};
        int[] told = {31, 31, 7, 2, 2, 1, 2};
        for (int what = 0; what < 7; what++) {
            check.due("plain park " + what, x.park(0, what), plain[what]);
            check.due("told park " + what, x.park(1, what), told[what]);
        }
        for (int h = 0; h < 48; h++) {
            int rate = h == 3 || h == 4 ? 9 : h == 5 || h == 6 ? 0 : h == 47 ? 1 : 2;
            check.due("plain rate", x.park(0, 10 + h), 2);
            check.due("told rate " + h, x.park(1, 10 + h), rate);
        }
        for (int what : new int[] {-1, 7, 8, 9, 58, 1000, Integer.MAX_VALUE, Integer.MIN_VALUE}) {
            check.due("park what " + what, x.park(0, what), NONE);
        }
        check.due("park 2", x.park(2, 0), NONE);
        check.due("park -1", x.park(-1, 0), NONE);
        row("bench 0", new int[] {3, NONE, NONE, NONE}, w -> x.bench(1, 0, w), -2);
        row("bench 1", new int[] {9, 47, 0, 47}, w -> x.bench(1, 1, w), -2);
        row("no bench", new int[] {}, w -> x.bench(1, 2, w), -2);
        row("bench -1", new int[] {}, w -> x.bench(1, -1, w), -2);
        row("bench of no park", new int[] {}, w -> x.bench(2, 0, w), -2);
        row("maybe 0", new int[] {1, 46, 9}, w -> x.told(1, 0, 0, w), NONE);
        row("maybe 1", new int[] {0, 2, 1}, w -> x.told(1, 0, 1, w), NONE);
        row("no maybe", new int[] {}, w -> x.told(1, 0, 2, w), NONE);
        row("pigeon 0", new int[] {1, 3}, w -> x.told(1, 1, 0, w), NONE);
        row("no pigeon", new int[] {}, w -> x.told(1, 1, -1, w), NONE);
        row("comer 0", new int[] {3, 1, 0, 2, 3, 4}, w -> x.told(1, 2, 0, w), NONE);
        row("comer 1", new int[] {4, 9, 1, 8, 7, 6}, w -> x.told(1, 2, 1, w), NONE);
        row("no comer", new int[] {}, w -> x.told(1, 2, 2, w), NONE);
        row("no sort", new int[] {}, w -> x.told(1, 3, 0, w), NONE);
        row("told of no park", new int[] {}, w -> x.told(2, 0, 0, w), NONE);
    }

    /** Asks whats -2 to 9: those of the row are due, all others are not there. */
    private static void row(String name, int[] due, java.util.function.IntUnaryOperator ask, int none) {
        for (int what = -2; what < 10; what++) {
            int want = what >= 0 && what < due.length ? due[what] : none;
            check.due(name + " what " + what, ask.applyAsInt(what), want);
        }
    }

    private static void others() {
        WetPaint x = new WetPaint();
        Check.text(x, 1, NONE, "deep 5 47;faint 0 1;dust 2 3;");
        row("how many prints", new int[] {3}, w -> x.sight(0, NONE, w), -2);
        row("print 0", new int[] {2, 5, 47}, w -> x.sight(0, 0, w), -2);
        row("print 1", new int[] {1, 0, 1}, w -> x.sight(0, 1, w), -2);
        row("print 2", new int[] {0, 2, 3}, w -> x.sight(0, 2, w), -2);
        row("no print", new int[] {}, w -> x.sight(0, 3, w), -2);
        row("print -2", new int[] {}, w -> x.sight(0, -2, w), -2);
        row("no sight", new int[] {}, w -> x.sight(1, NONE, w), -2);
        Check.text(x, 3, NONE, "halves 5 47 0;halves 1 2 3;");
        row("how many halves", new int[] {2}, w -> x.plan(0, NONE, w), -2);
        row("halves 0", new int[] {5, 47, 0}, w -> x.plan(0, 0, w), -2);
        row("halves 1", new int[] {1, 2, 3}, w -> x.plan(0, 1, w), -2);
        row("no halves", new int[] {}, w -> x.plan(0, 2, w), -2);
        row("no plan", new int[] {}, w -> x.plan(-1, NONE, w), -2);
        Check.text(x, 2, NONE, "alarm 3 10 50 4;alarm 1 20 10 3;alarm 2 4 6 3;");
        row("how many alarms, mend", new int[] {3, 0}, w -> x.alarm(0, NONE, w), -2);
        row("alarm 0", new int[] {3, 10, 50, 4, 1, 40}, w -> x.alarm(0, 0, w), -2);
        row("alarm 1", new int[] {1, 20, 10, 3, 0, 10}, w -> x.alarm(0, 1, w), -2);
        row("alarm 2", new int[] {2, 4, 6, 3, 1, 12}, w -> x.alarm(0, 2, w), -2);
        row("no alarm", new int[] {}, w -> x.alarm(0, 3, w), -2);
        row("alarm -2", new int[] {}, w -> x.alarm(0, -2, w), -2);
        row("no alarms", new int[] {}, w -> x.alarm(1, NONE, w), -2);
        Check.text(x, 2, NONE, "");
        row("empty alarms", new int[] {0, NONE}, w -> x.alarm(1, NONE, w), -2);
        check.due("count of sights", x.count(1), 1);
        check.due("count of alarms", x.count(2), 2);
        check.due("count of plans", x.count(3), 1);
        mend("alarm 0 5 9 9;alarm 9 9 9 9;", 0);
        // COST falls by: 0; 2 (8 by 2 to 4 by 2); 6 by 4 (8 by 4 to 2 by 4); 2 (16 by 4 to 8 by 4).
        mend("alarm 9 9 9 9;alarm 1 2 9 4;alarm 1 4 9 2;alarm 2 4 9 4;", 1);
        mend("alarm 9 9 9 9;alarm 1 4 9 2;alarm 2 4 9 4;alarm 1 2 9 4;", 2);
        // Neither the fall times OF (2, 3) nor the fall as a part of COST (2 of 4, 3 of 4).
        mend("alarm 1 2 4 2;alarm 1 4 8 1;", 0);
        mend("alarm 1 4 8 1;alarm 1 2 4 2;", 1);
        mend("alarm 0 20 99 99;alarm 20 20 99 99;alarm 0 1 0 0;", 0);
        mend("alarm 0 9 0 0;alarm 1 2 3 2;", 1);
        mend("alarm 1 2 3 2;alarm 0 9 0 0;", 0);
    }

    private static void mend(String text, int due) {
        WetPaint x = new WetPaint();
        Check.text(x, 2, NONE, text);
        check.due("mend of " + text, x.alarm(0, NONE, 1), due);
    }

    private static void images() {
        WetPaint x = Check.of("bench 1;bench 2;fresh 50;");
        Check.text(x, 1, NONE, "deep 0 1;");
        Check.text(x, 2, NONE, "alarm 1 2 3 4;");
        Check.text(x, 3, NONE, "halves 0 1 2;");
        Check.text(x, 0, NONE, "bench");
        Check.feed(x, "bench 7;", 0);
        for (int k : new int[] {-1, 3, Integer.MAX_VALUE}) {
            check.due("image " + k, x.image(k), false);
            check.due("again " + k, x.again(k), false);
        }
        check.due("again ahead of image", x.again(2), false);
        check.due("image 2", x.image(2), true);
        check.due("a further text", x.text(0, 0), 0);
        check.due("fault then", x.fault(0), 0);
        Check.text(x, 0, NONE, "fresh 60;");
        Check.text(x, 1, 0, "dust 1 1;dust 1 1;");
        Check.text(x, 2, 0, "");
        Check.text(x, 3, 0, "halves 5 5 5;");
        Check.text(x, 3, NONE, "halves 5 5 5;");
        check.due("image 0", x.image(0), true);
        for (int twice = 0; twice < 2; twice++) {
            check.due("again 2", x.again(2), true);
            check.due("parks", x.count(0), 1);
            check.due("benches", x.park(0, 3), 2);
            check.due("fresh", x.park(0, 0), 50);
            check.due("no park 1", x.park(1, 0), NONE);
            check.due("prints", x.sight(0, NONE, 0), 1);
            check.due("print", x.sight(0, 0, 0), 2);
            check.due("alarms", x.alarm(0, NONE, 0), 1);
            check.due("halves", x.plan(0, 0, 1), 1);
            check.due("plans", x.count(3), 1);
            check.due("fault", x.fault(0), 1);
            check.due("place", x.fault(1), 5);
            check.due("the tape", x.end(9), NONE);
            check.due("the tape as text", x.text(0, NONE), 1);
            check.due("its slats", x.bench(1, 0, 0), 7);
        }
        check.due("again 0", x.again(0), true);
        check.due("parks of image 0", x.count(0), 2);
        check.due("fresh of image 0", x.park(1, 0), 60);
        check.due("bench of image 0", x.bench(0, 0, 0), 7);
        check.due("prints of image 0", x.sight(0, NONE, 0), 2);
        check.due("alarms of image 0", x.alarm(0, NONE, 0), 0);
        check.due("plans of image 0", x.count(3), 2);
        check.due("again 1", x.again(1), false);
    }
}
