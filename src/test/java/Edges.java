import java.util.function.IntUnaryOperator;

/** What the tests by sentences share: each answer that is due stands under the sentence of the document that asks for it. */
abstract class Edges {
    static final int NONE = WetPaint.NONE;
    static final int NO_SUCH = -2;
    static final int NO_WORTH = -1000000;
    static final int[] FAR = {Integer.MIN_VALUE, Integer.MIN_VALUE + 1, -1000, -256, 100, 256, 1000, 65536, Integer.MAX_VALUE - 1, Integer.MAX_VALUE};

    private final Check check;
    private final Doc doc;
    private String sentence = "";
    private int asked = 1;

    Edges(Check check, Doc doc) {
        this.check = check;
        this.doc = doc;
    }

    /** All sentences of this part of the document. */
    abstract void run();

    final void promise(int number, String words) {
        quote("Promise " + number, words);
    }

    final void term(int number, String words) {
        quote("Term " + number, words);
    }

    private void quote(String section, String words) {
        close();
        sentence = section + ": " + words;
        asked = 0;
        check.due("the document says, " + sentence, doc.says(section, words), true);
    }

    /** A sentence that nothing was asked of has no test. */
    final void close() {
        check.due("a test of its own has, " + sentence, asked > 0, true);
    }

    final void due(String call, long got, long want) {
        asked++;
        check.due(call + " (" + sentence + ")", got, want);
    }

    final void due(String call, boolean got, boolean want) {
        due(call, got ? 1 : 0, want ? 1 : 0);
    }

    /** Asks numbers -3 to 62 and some far ones: those of the row are due from 0 on, for all others none. */
    final void row(String call, IntUnaryOperator ask, int none, int... due) {
        each(call, ask, n -> n >= 0 && n < due.length ? due[n] : none);
    }

    final void each(String call, IntUnaryOperator ask, IntUnaryOperator due) {
        for (int n = -3; n <= 62; n++) {
            due(call + " by " + n, ask.applyAsInt(n), due.applyAsInt(n));
        }
        for (int n : FAR) {
            due(call + " by " + n, ask.applyAsInt(n), due.applyAsInt(n));
        }
    }

    /** Asks numbers outside of least to most, none of which is there. */
    final void outside(String call, IntUnaryOperator ask, int none, int least, int most) {
        for (int n : new int[] {least - 1, least - 2, most + 1, most + 2}) {
            due(call + " by " + n, ask.applyAsInt(n), none);
        }
        for (int n : FAR) {
            if (n < least || n > most) {
                due(call + " by " + n, ask.applyAsInt(n), none);
            }
        }
    }

    /** A text of a sort on a new object: its FAULT, 0 for none, and the place. */
    final WetPaint fault(int sort, String text, int fault, int place) {
        WetPaint x = new WetPaint();
        due("text of " + text, Check.text(x, sort, NONE, text), fault == 0 ? 0 : NONE);
        due("fault of " + text, x.fault(0), fault);
        due("place in " + text, x.fault(1), place);
        due("count after " + text, x.count(sort), fault == 0 ? 1 : 0);
        return x;
    }

    final WetPaint fine(int sort, String text) {
        return fault(sort, text, 0, NONE);
    }

    /** A text that has a FAULT at the place of the ^, which is no sign of it. */
    final void marked(int sort, String text, int fault) {
        fault(sort, text.replace("^", ""), fault, text.indexOf('^'));
    }

    /** Each number, 0 .. 999, in the place of the #: from least to most it can be, all others are a FAULT 2 there. */
    final void numbers(int sort, String text, int least, int most) {
        WetPaint x = new WetPaint();
        for (int n = 0; n <= 999; n++) {
            x = n % 20 == 0 ? new WetPaint() : x;
            boolean can = n >= least && n <= most;
            String told = text.replace("#", Integer.toString(n));
            due("text of " + told, Check.text(x, sort, x.count(sort) == 0 ? NONE : 0, told), can ? 0 : NONE);
            due("fault of " + told, x.fault(0), can ? 0 : 2);
            due("place in " + told, x.fault(1), can ? NONE : text.indexOf('#'));
        }
    }

    static WetPaint told(String... parks) {
        return Check.of(parks);
    }

    /** A park with other texts: their sorts and themselves, one by one. */
    static WetPaint with(WetPaint x, int sort, String... texts) {
        for (String text : texts) {
            if (Check.text(x, sort, NONE, text) < 0) {
                throw new IllegalStateException("fault " + x.fault(0) + " at " + x.fault(1) + " of " + text);
            }
        }
        return x;
    }
}
