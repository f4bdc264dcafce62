/** Counts and prints the answers that are not due. */
final class Due {
    private final String test;
    private int wrong = 0;
    private int asked = 0;

    Due(String test) {
        this.test = test;
    }

    void is(String call, long got, long want) {
        asked++;
        if (got != want) {
            wrong++;
            System.out.println(test + ": " + call + " answered " + got + ", due is " + want);
        }
    }

    /** Types a text, eight bytes a call. */
    static void type(NoDayForIt x, String text) {
        for (int i = 0; i < text.length(); i += 8) {
            String part = text.substring(i, Math.min(text.length(), i + 8));
            long v = 0;
            for (int j = 0; j < part.length(); j++) {
                v = v << 8 | part.charAt(j) & 255;
            }
            x.type(v, part.length());
        }
    }

    static NoDayForIt withLaw(String text) {
        NoDayForIt x = new NoDayForIt();
        type(x, text);
        int items = x.law();
        if (items < 0) {
            throw new IllegalStateException(text + " answered " + items);
        }
        return x;
    }

    /** Types a text and reads it; what was there is cleared first. */
    static int law(NoDayForIt x, String text) {
        x.clear();
        type(x, text);
        return x.law();
    }

    /** A row of WISHES for each GROUP. */
    static NoDayForIt wishing(int[]... wishes) {
        NoDayForIt x = new NoDayForIt();
        for (int g = 0; g < wishes.length; g++) {
            x.group();
            for (int m = 0; m < wishes[g].length; m++) {
                x.wish(g, m, wishes[g][m]);
            }
        }
        return x;
    }

    static void waitTo(NoDayForIt x, int d) {
        for (int i = 0; i < 60 && x.now(0) < d; i++) {
            x.act(5, 0, 0);
        }
    }

    void end() {
        if (wrong > 0 || asked == 0) {
            System.out.println(test + ": " + wrong + " of " + asked + " answers are not due");
            System.exit(1);
        }
    }
}
