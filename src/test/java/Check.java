/** What the tests share: answers that are due, and texts told over the tape. */
final class Check {
    private int wrong = 0;
    private int asked = 0;

    void due(String call, long got, long want) {
        asked++;
        if (got != want) {
            wrong++;
            if (wrong <= 40) {
                System.out.println(call + " answered " + got + ", due is " + want);
            }
        }
    }

    void due(String call, boolean got, boolean want) {
        due(call, got ? 1 : 0, want ? 1 : 0);
    }

    void end(String test) {
        System.out.println(test + ": " + (wrong == 0 ? asked + " answers are as due" : wrong + " of " + asked + " answers are not as due"));
        if (wrong != 0) {
            System.exit(1);
        }
    }

    /** Feeds a text behind what the tape has; the bytes that fill up the last feed are cut off again. */
    static void feed(WetPaint x, String text, int had) {
        byte[] bytes = text.getBytes(java.nio.charset.StandardCharsets.ISO_8859_1);
        for (int i = 0; i < bytes.length; i += 20) {
            int[] n = new int[5];
            for (int j = 0; j < 20; j++) {
                int b = i + j < bytes.length ? bytes[i + j] & 255 : 32;
                n[j / 4] = n[j / 4] << 8 | b;
            }
            if (x.feed(n[0], n[1], n[2], n[3], n[4]) < 0) {
                throw new IllegalStateException("the tape is full: " + text.length());
            }
        }
        if (x.end(had + bytes.length) != had + bytes.length) {
            throw new IllegalStateException("the tape can't be cut");
        }
    }

    /** Takes a text of a sort on an empty tape. */
    static int text(WetPaint x, int sort, int at, String text) {
        feed(x, text, 0);
        return x.text(sort, at);
    }

    static WetPaint of(String... parks) {
        WetPaint x = new WetPaint();
        for (String park : parks) {
            if (text(x, 0, -1, park) < 0) {
                throw new IllegalStateException("fault " + x.fault(0) + " at " + x.fault(1) + " of " + park);
            }
        }
        return x;
    }
}
