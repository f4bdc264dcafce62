import java.util.Random;

/** Random runs of calls, each answer compared with the plain model's. */
public final class RandomRunsTest {
    private static final Due DUE = new Due("RandomRunsTest");
    private static final String[] KINDS = {"free", "market", "holy", "dark"};

    private final Random random;
    private final NoDayForIt x = new NoDayForIt();
    private final PlainModel y = new PlainModel();
    private final String run;

    private RandomRunsTest(int seed) {
        random = new Random(seed);
        run = "run " + seed + " ";
    }

    public static void main(String[] args) {
        int runs = args.length > 0 ? Integer.parseInt(args[0]) : 3000;
        for (int seed = 0; seed < runs; seed++) {
            new RandomRunsTest(seed).go();
        }
        DUE.end();
    }

    private int r(int n) {
        return random.nextInt(n);
    }

    /** Mostly from..to, now and then a little beyond. */
    private int near(int from, int to) {
        return r(15) == 0 ? from - 2 + r(to - from + 5) : from + r(to - from + 1);
    }

    private void go() {
        int people = r(6);
        for (int i = 0; i < people; i++) {
            person();
        }
        law();
        int calls = 20 + r(150);
        for (int i = 0; i < calls; i++) {
            switch (r(14)) {
                case 0 -> askYear();
                case 1, 2, 3, 4, 5 -> act();
                case 6, 7 -> askAhead();
                case 8 -> askMatters();
                case 9 -> words();
                case 10 -> price();
                case 11 -> images();
                case 12 -> askNow();
                default -> rare();
            }
        }
    }

    private void is(String call, long got, long want) {
        DUE.is(run + call, got, want);
    }

    private void rare() {
        switch (r(8)) {
            case 0 -> law();
            case 1 -> person();
            default -> act();
        }
    }

    private void person() {
        int office = near(0, 2);
        int times = near(0, 3);
        is("person " + office + " " + times, x.person(office, times), y.person(office, times));
    }

    private String number(int from, int to) {
        return r(60) == 0 ? String.valueOf(r(110)) : String.valueOf(from + r(to - from + 1));
    }

    private String stepText() {
        StringBuilder sb = new StringBuilder("step");
        int kinds = 1 + r(15);
        for (int k = 0; k < 4; k++) {
            sb.append((kinds >> k & 1) == 1 ? " " + KINDS[k] : "");
        }
        boolean market = r(4) == 0;
        sb.append(" after ").append(number(0, market ? 2 : 4)).append(market ? " market" : "");
        sb.append(r(2) == 0 ? " within " + number(1, 6) : "");
        sb.append(r(2) == 0 ? " voice" : "").append(r(2) == 0 ? " sign" : "");
        return sb.append(";").toString();
    }

    private String lawText() {
        StringBuilder sb = new StringBuilder();
        sb.append(r(8) == 0 ? "" : "year " + number(10, r(5) == 0 ? 60 : 16) + ";");
        int paints = r(4);
        for (int i = 0; i < paints; i++) {
            String kind = KINDS[r(4)];
            int d = r(14);
            sb.append(r(2) == 0
                ? "every " + number(1, 6) + " from " + number(0, 8) + " " + kind + ";"
                : "days " + d + " " + number(d, d + 4) + " " + kind + " ;");
        }
        int bills = r(6) == 0 ? r(2) : 2;
        for (int i = 0; i < bills; i++) {
            sb.append("bill;");
            int steps = r(8) == 0 ? 0 : 1 + r(4);
            for (int k = 0; k < steps; k++) {
                sb.append(stepText());
            }
        }
        return sb.toString();
    }

    private String spoilt(String text) {
        String[] parts = {" ", ";", "year", "bill", "0", "free", "voice", "within", "after", "7",
            "~", "step", "from", "\u00f7", "market market", "a"};
        StringBuilder sb = new StringBuilder(text);
        int place = r(sb.length() + 1);
        switch (r(3)) {
            case 0 -> sb.insert(place, parts[r(parts.length)]);
            case 1 -> sb.setLength(place);
            default -> sb.replace(place, Math.min(sb.length(), place + 1), "");
        }
        return sb.toString();
    }

    private void law() {
        String text = lawText();
        if (r(3) == 0) {
            text = spoilt(text);
        }
        if (r(4) == 0) {
            is("clear", x.clear(), y.clear());
        }
        for (int i = 0; i < text.length(); ) {
            int n = Math.min(text.length() - i, 1 + r(8));
            long v = random.nextLong();
            for (int j = 0; j < n; j++) {
                v = v << 8 | text.charAt(i + j);
            }
            is("type", x.type(v, n), y.type(v, n));
            i += n;
        }
        is("law " + text, x.law(), y.law());
        is("count 3", x.count(3), y.count(3));
        is("clear", x.clear(), y.clear());
    }

    private int aDay() {
        return near(0, y.count(0) - 1);
    }

    private void askYear() {
        int d = aDay();
        int e = r(6) == 0 ? -9 : aDay();
        int b = near(0, 1);
        int k = near(0, 3);
        int what = near(0, 4);
        is("day " + d, x.day(d), y.day(d));
        is("days " + k + " " + d + " " + e, x.days(k, d, e), y.days(k, d, e));
        is("step " + b + " " + k + " " + what, x.step(b, k, what), y.step(b, k, what));
        is("may " + b + " " + k + " " + e + " " + d, x.may(b, k, e, d), y.may(b, k, e, d));
        int before = Math.max(0, d - r(6));
        is("may " + b + " " + k + " " + before + " " + d, x.may(b, k, before, d), y.may(b, k, before, d));
    }

    private void act() {
        int[] often = {0, 0, 0, 0, 1, 1, 1, 2, 3, 4, 4, 5, 5};
        int what = r(30) == 0 ? near(0, 5) : often[r(often.length)];
        int p = near(0, Math.max(0, y.count(1) - 1));
        int of = what == 0 ? near(0, 1) : what == 3 ? aDay() : r(40) == 0 ? 1 : 0;
        is("act " + what + " " + p + " " + of, x.act(what, p, of), y.act(what, p, of));
        for (int i = 0; i < 7; i++) {
            is("now " + i, x.now(i), y.now(i));
        }
    }

    private void askNow() {
        int what = near(0, 6);
        int b = near(0, 1);
        int p = near(0, 7);
        is("now " + what, x.now(what), y.now(what));
        is("bill " + b + " " + what, x.bill(b, what), y.bill(b, what));
        is("who " + p + " " + what, x.who(p, what), y.who(p, what));
        is("count " + what, x.count(what), y.count(what));
    }

    private void askAhead() {
        int b = near(0, 1);
        int p = near(0, 7);
        int most = y.count(0) > 20 ? 1 : 6;
        int v = r(20) == 0 ? 7 : r(most + 1);
        int s = r(20) == 0 ? -1 : r(most + 1);
        for (int k = -2; k < 6; k++) {
            is("soon " + b + " " + k, x.soon(b, k), y.soon(b, k));
        }
        is("against " + b, x.against(b), y.against(b));
        is("sure " + b + " " + v + " " + s, x.sure(b, v, s), y.sure(b, v, s));
        is("delay " + b + " " + p, x.delay(b, p), y.delay(b, p));
        if (y.count(0) < 20 && y.count(1) < 5 && r(4) == 0) {
            int what = near(0, 1);
            is("stop " + b + " " + what, x.stop(b, what), y.stop(b, what));
        }
    }

    private void askMatters() {
        if (r(3) == 0) {
            is("group", x.group(), y.group());
        }
        for (int i = 0; i < 6; i++) {
            int g = near(0, Math.max(0, y.count(2) - 1));
            int m = near(0, 5);
            int v = near(-9, 9);
            is("wish " + g + " " + m + " " + v, x.wish(g, m, v), y.wish(g, m, v));
        }
        int set = near(1, 63);
        int m = near(0, 5);
        int what = near(0, 1);
        is("passes " + set, x.passes(set), y.passes(set));
        is("ride " + m + " " + what, x.ride(m, what), y.ride(m, what));
        is("tears " + set, x.tears(set), y.tears(set));
    }

    private void words() {
        int w = near(0, 4);
        int what = near(0, 3);
        int of = near(0, what < 2 ? 1 : 3);
        int by = what == 3 ? near(0, 3) : r(4) == 0 ? near(0, 59) : r(4);
        is("word " + w + " " + what + " " + of + " " + by, x.word(w, what, of, by),
            y.word(w, what, of, by));
        if (y.count(0) < 20 && r(3) == 0) {
            for (int i = -1; i < 4; i++) {
                is("mended " + i, x.mended(i), y.mended(i));
            }
        }
    }

    private void price() {
        int kind = near(0, 6);
        int d = aDay();
        is("price " + kind + " " + d, x.price(kind, d), y.price(kind, d));
        is("trace", x.trace(), y.trace());
    }

    private void images() {
        int i = near(0, 1);
        if (r(2) == 0) {
            is("keep " + i, x.keep(i), y.keep(i));
        } else {
            is("back " + i, x.back(i), y.back(i));
        }
        for (int w = 0; w < 7; w++) {
            is("now " + w, x.now(w), y.now(w));
            is("count " + w, x.count(w), y.count(w));
        }
        for (int b = 0; b < 2; b++) {
            is("bill", x.bill(b, 1), y.bill(b, 1));
            is("bill", x.bill(b, 2), y.bill(b, 2));
        }
    }
}
