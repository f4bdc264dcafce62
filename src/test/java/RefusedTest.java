import java.util.function.Consumer;

/**
 * "Refused, and nothing changes, the first of these: BAD (a number is not as told, or there is no
 * such thing), STATE (as told), FULL." Every number of every call, at both its ends and beyond
 * them, on objects in many states; behind each refused call the object answers as one that was
 * never asked.
 */
public final class RefusedTest {
    private static final Due DUE = new Due("RefusedTest");
    private static final int[] FAR = {Integer.MIN_VALUE, Integer.MIN_VALUE + 1, -1000, -101, -64,
        -10, 64, 101, 256, 1 << 16, 1 << 30, Integer.MAX_VALUE - 1, Integer.MAX_VALUE};
    private static final int N = 12, PEOPLE = 4, GROUPS = 3;

    /** A call with one number left open. */
    interface Call {
        long with(NoDayForIt x, int number);
    }

    interface Made {
        NoDayForIt now();
    }

    public static void main(String[] args) {
        Made[] states = {NoDayForIt::new, RefusedTest::busy, RefusedTest::full,
            RefusedTest::carriedAndVoid, RefusedTest::withoutSteps, RefusedTest::lastDay};
        for (int i = 0; i < states.length; i++) {
            state = i;
            made = states[i];
            laws();
            peopleActs();
            daysAhead();
            mattersWords();
            kindsImages();
        }
        stateRefused();
        fullRefused();
        faultChangesNothing();
        asksChangeNothing();
        DUE.end();
    }

    private static int state;
    private static Made made;

    // ---- objects in many states

    /** Two bills of four steps, each call has something to answer. */
    private static NoDayForIt busy() {
        String steps = "step free after 0 voice sign;step free after 1 within 9 voice;"
            + "step free market after 1 market sign;step free dark after 0;";
        NoDayForIt x = Due.withLaw("year 12;every 3 from 1 market;days 11 11 dark;bill;" + steps
            + "bill;" + steps);
        x.person(1, 3);
        x.person(2, 3);
        x.person(0, 2);
        x.person(2, 2);
        x.act(4, 0, 0);
        x.act(3, 1, 4);
        x.act(0, 0, 0);
        x.keep(0);
        x.act(1, 0, 0);
        x.act(5, 0, 0);
        x.act(5, 0, 0);
        x.act(0, 0, 0);
        x.keep(1);
        x.act(5, 0, 0);
        x.act(0, 0, 0);
        x.act(1, 0, 0);
        groupsAndWords(x);
        Due.type(x, "bill;");
        return x;
    }

    private static void groupsAndWords(NoDayForIt x) {
        int[] wishes = {3, -4, 2, 0, 9, -9};
        for (int g = 0; g < GROUPS; g++) {
            x.group();
            for (int m = 0; m < 6; m++) {
                x.wish(g, m, wishes[(g + m) % 6]);
            }
        }
        x.word(0, 3, 0, 3);
        x.word(1, 2, 1, 1);
        x.word(2, 1, 1, 4);
        x.word(3, 3, 3, 2);
        x.word(4, 2, 2, 1);
        x.price(3, 5);
    }

    /** 400 bytes, eight people, nine groups. */
    private static NoDayForIt full() {
        NoDayForIt x = busy();
        x.person(1, 3);
        x.person(1, 0);
        x.person(2, 1);
        x.person(2, 0);
        for (int g = GROUPS; g < 9; g++) {
            x.group();
        }
        Due.type(x, " ".repeat(395));
        return x;
    }

    private static NoDayForIt carriedAndVoid() {
        NoDayForIt x = Due.withLaw("year 12;bill;step free after 0 voice;"
            + "bill;step free after 0 voice;step free after 9;");
        x.person(1, 3);
        x.person(2, 1);
        x.act(0, 0, 1);
        x.act(1, 0, 0);
        x.act(4, 0, 0);
        x.keep(1);
        x.act(0, 0, 0);
        groupsAndWords(x);
        return x;
    }

    private static NoDayForIt withoutSteps() {
        NoDayForIt x = Due.withLaw("year 12;bill;bill;");
        x.person(2, 1);
        x.act(0, 0, 0);
        x.act(2, 0, 0);
        return x;
    }

    private static NoDayForIt lastDay() {
        NoDayForIt x = busy();
        Due.waitTo(x, N - 1);
        x.act(2, 3, 0);
        x.act(5, 3, 0);
        return x;
    }

    // ---- what an object answers

    /** Nearly all that an object can be asked, and at last what its next acts and images do. */
    private static String face(NoDayForIt x) {
        StringBuilder sb = new StringBuilder();
        for (int i = 0; i < 7; i++) {
            add(sb, x.count(i), x.now(i), x.ride(i, 1), x.mended(i));
        }
        for (int p = 0; p < 8; p++) {
            add(sb, x.who(p, 0), x.who(p, 1), x.who(p, 2), x.delay(0, p));
        }
        for (int b = 0; b < 2; b++) {
            add(sb, x.bill(b, 0), x.bill(b, 1), x.bill(b, 2), x.against(b), x.stop(b, 1));
            for (int k = 0; k < 4; k++) {
                add(sb, x.soon(b, k - 1), x.sure(b, k, 6 - k), x.step(b, k, 0), x.step(b, k, 1));
                add(sb, x.step(b, k, 2), x.step(b, k, 3), x.step(b, k, 4));
            }
        }
        for (int d = 0; d < 30; d++) {
            add(sb, x.day(d), x.passes(2 * d + 1));
        }
        add(sb, x.trace(), x.days(0, 0, 9), x.price(4, 4));
        for (int g = 0; g < 9; g++) {
            for (int m = 0; m < 6; m++) {
                add(sb, x.wish(g, m, 0));
            }
        }
        later(x, sb);
        return sb.toString();
    }

    private static void later(NoDayForIt x, StringBuilder sb) {
        add(sb, x.act(4, 0, 0), x.act(1, 0, 0), x.now(1), x.now(6), x.bill(0, 1));
        for (int image = 0; image < 2; image++) {
            add(sb, x.back(image), x.now(0), x.now(2), x.now(3), x.now(4), x.now(5), x.now(6));
            add(sb, x.count(4), x.count(5), x.count(6), x.bill(0, 1), x.bill(1, 2));
            add(sb, x.act(1, 0, 0), x.act(4, 0, 0), x.act(2, 1, 0), x.now(6));
        }
        for (int w = 0; w < 5; w++) {
            add(sb, x.word(w, 0, 0, 0));
        }
        add(sb, x.group(), x.person(0, 3), x.law(), x.type(';', 1), x.clear(), x.count(0));
    }

    private static void add(StringBuilder sb, long... answers) {
        for (long a : answers) {
            sb.append(a).append(' ');
        }
    }

    // ---- every number of every call

    /** A number that may be least .. most, and when it is beyond, what is answered. */
    private static void number(String call, int least, int most, int answer, Call c) {
        refused(call, least - 1, answer, c);
        refused(call, most + 1, answer, c);
        for (int far : FAR) {
            if (far < least || far > most) {
                refused(call, far, answer, c);
            }
        }
        if (state == 1) {
            well(call, least, answer, c);
            well(call, most, answer, c);
        }
    }

    private static void number(String call, int least, int most, Call c) {
        number(call, least, most, NoDayForIt.BAD, c);
    }

    private static void refused(String call, int number, int answer, Call c) {
        String told = "state " + state + ": " + call + " " + number;
        NoDayForIt x = made.now();
        DUE.is(told, c.with(x, number), answer);
        DUE.is(told + " changes nothing", face(x).equals(face(made.now())) ? 1 : 0, 1);
    }

    private static void well(String call, int number, int answer, Call c) {
        DUE.is(call + " " + number + " is well", c.with(made.now(), number) == answer ? 1 : 0, 0);
    }

    private static void laws() {
        number("type n", 1, 8, (x, n) -> x.type(0x3b3b3b3b3b3b3b3bL, n));
        int n = made.now().count(0);
        number("day", 0, n - 1, NoDayForIt::day);
        number("days kind", 0, 3, (x, kind) -> x.days(kind, 0, 9));
        number("days from", 0, n - 1, (x, d) -> x.days(0, d, 9));
        number("days to", 0, n - 1, (x, d) -> x.days(0, 0, d));
        number("days from, none", 0, n - 1, (x, d) -> x.days(0, d, 0));
        number("step bill", 0, 1, (x, b) -> x.step(b, 0, 0));
        number("step k", 0, 3, (x, k) -> x.step(1, k, 0));
        number("step what", 0, 4, (x, what) -> x.step(0, 0, what));
        number("may bill", 0, 1, (x, b) -> x.may(b, 1, 2, 5));
        number("may k", 0, 3, (x, k) -> x.may(1, k, 2, 5));
        number("may d", 0, n - 1, (x, d) -> x.may(1, 1, 0, d));
        number("may d, NONE ahead", 0, n - 1, (x, d) -> x.may(1, 1, -9, d));
        number("may d, first", 0, n - 1, (x, d) -> x.may(0, 0, -9, d));
        for (int ahead : new int[] {-10, -8, -1, n}) {
            refused("may ahead", ahead, -1, (x, a) -> x.may(1, 1, a, 5));
            refused("may ahead of the first", ahead, -1, (x, a) -> x.may(1, 0, a, 5));
        }
        for (int ahead : FAR) {
            refused("may ahead", ahead, -1, (x, a) -> x.may(0, 1, a, 5));
        }
        if (state == 1) {
            well("may ahead", -9, -1, (x, a) -> x.may(0, 1, a, 5));
            well("may ahead", 0, -1, (x, a) -> x.may(0, 1, a, 5));
            well("may ahead", n - 1, -1, (x, a) -> x.may(0, 1, a, 5));
        }
    }

    private static void peopleActs() {
        number("person office", 0, 2, (x, office) -> x.person(office, 0));
        number("person times", 0, 3, (x, times) -> x.person(0, times));
        number("person times of a voice", 0, 3, (x, times) -> x.person(1, times));
        int people = made.now().count(1);
        int n = made.now().count(0);
        number("who p", 0, people - 1, (x, p) -> x.who(p, 2));
        number("who what", 0, 2, (x, what) -> x.who(1, what));
        number("act what", 0, 5, (x, what) -> x.act(what, 1, 0));
        for (int act = 0; act < 6; act++) {
            int what = act;
            int most = what == 0 ? 1 : what == 3 ? n - 1 : 0;
            number("act " + what + " p", 0, people - 1, (x, p) -> x.act(what, p, 0));
            number("act " + what + " of", 0, most, (x, of) -> x.act(what, 0, of));
        }
        number("now", 0, 6, NoDayForIt::now);
        number("bill bill", 0, 1, (x, b) -> x.bill(b, 0));
        number("bill what", 0, 2, (x, what) -> x.bill(0, what));
    }

    private static void daysAhead() {
        int people = made.now().count(1);
        number("soon bill", 0, 1, (x, b) -> x.soon(b, -1));
        number("soon bill, step", 0, 1, (x, b) -> x.soon(b, 0));
        number("soon k", -1, 3, (x, k) -> x.soon(1, k));
        number("against", 0, 1, NoDayForIt::against);
        number("sure bill", 0, 1, (x, b) -> x.sure(b, 1, 1));
        number("sure v", 0, 6, (x, v) -> x.sure(1, v, 6));
        number("sure s", 0, 6, (x, s) -> x.sure(1, 6, s));
        number("delay bill", 0, 1, (x, b) -> x.delay(b, 0));
        number("delay p", 0, people - 1, (x, p) -> x.delay(1, p));
        number("stop bill", 0, 1, (x, b) -> x.stop(b, 0));
        number("stop what", 0, 1, (x, what) -> x.stop(1, what));
    }

    private static void mattersWords() {
        int groups = made.now().count(2);
        number("wish group", 0, groups - 1, -100, (x, g) -> x.wish(g, 0, 1));
        number("wish matter", 0, 5, -100, (x, m) -> x.wish(0, m, 1));
        number("wish v", -9, 9, -100, (x, v) -> x.wish(0, 0, v));
        number("passes", 1, 63, NoDayForIt::passes);
        number("ride matter", 0, 5, (x, m) -> x.ride(m, 0));
        number("ride what", 0, 1, (x, what) -> x.ride(0, what));
        number("tears", 1, 63, NoDayForIt::tears);
        number("word w", 0, 4, (x, w) -> x.word(w, 0, 0, 0));
        number("word what", 0, 3, (x, what) -> x.word(0, what, 0, 0));
        for (int word = 0; word < 4; word++) {
            int what = word;
            number("word " + what + " of", 0, what < 2 ? 1 : 3, (x, of) -> x.word(0, what, of, 0));
            number("word " + what + " by", 0, what == 3 ? 3 : 59, (x, by) -> x.word(0, what, 0, by));
        }
        number("mended", 0, 2, NoDayForIt::mended);
    }

    private static void kindsImages() {
        int n = made.now().count(0);
        number("price kind", 0, 6, (x, kind) -> x.price(kind, 4));
        for (int k = 0; k < 7; k++) {
            int kind = k;
            number("price " + kind + " d", 0, n - 1, (x, d) -> x.price(kind, d));
        }
        number("keep", 0, 1, NoDayForIt::keep);
        number("back", 0, 1, NoDayForIt::back);
        number("count", 0, 6, NoDayForIt::count);
    }

    // ---- STATE and FULL

    private static void isRefused(String told, Made from, int answer, Call c) {
        NoDayForIt x = from.now();
        DUE.is(told, c.with(x, 0), answer);
        DUE.is(told + " changes nothing", face(x).equals(face(from.now())) ? 1 : 0, 1);
    }

    /** "of a BILL that has STEPS and is not CARRIED nor VOID (else STATE)" */
    private static void stateRefused() {
        for (int i = 0; i < 2; i++) {
            int b = i;
            Made[] closed = {RefusedTest::carriedAndVoid, RefusedTest::withoutSteps};
            for (Made from : closed) {
                String told = (from == closed[0] ? "carried, void: " : "no steps: ") + b + " ";
                isRefused(told + "soon", from, -2, (x, k) -> x.soon(b, -1));
                isRefused(told + "against", from, -2, (x, k) -> x.against(b));
                isRefused(told + "sure", from, -2, (x, k) -> x.sure(b, 0, 0));
                isRefused(told + "sure 6", from, -2, (x, k) -> x.sure(b, 6, 6));
                isRefused(told + "delay", from, -2, (x, k) -> x.delay(b, 0));
                isRefused(told + "stop", from, -2, (x, k) -> x.stop(b, 0));
                isRefused(told + "stop set", from, -2, (x, k) -> x.stop(b, 1));
            }
        }
        isRefused("carried: row", RefusedTest::carriedAndVoid, -2, (x, k) -> x.soon(0, 0));
        isRefused("void: row", RefusedTest::carriedAndVoid, -2, (x, k) -> x.soon(1, 1));
        isRefused("delay, SOON is NONE", RefusedTest::lastDay, -2, (x, k) -> x.delay(0, 0));
        isRefused("new: back 0", NoDayForIt::new, -2, (x, k) -> x.back(0));
        isRefused("new: back 1", NoDayForIt::new, -2, (x, k) -> x.back(1));
        isRefused("the other was kept", RefusedTest::carriedAndVoid, -2, (x, k) -> x.back(0));
    }

    private static void fullRefused() {
        for (int i = 1; i <= 8; i++) {
            int n = i;
            isRefused("400 bytes, type " + n, RefusedTest::full, -3, (x, k) -> x.type(';', n));
            isRefused("one byte beyond, " + n, () -> typed(401 - n), -3, (x, k) -> x.type(-1, n));
            DUE.is("just 400, " + n, typed(400 - n).type(-1, n), 400);
        }
        for (int office = 0; office < 3; office++) {
            int of = office;
            isRefused("eight people, office " + of, RefusedTest::full, -3, (x, k) -> x.person(of, 0));
        }
        for (int office = 1; office < 3; office++) {
            int of = office;
            Made five = () -> withTimes(of, 3, 2);
            Made six = () -> withTimes(of, 3, 3);
            DUE.is("six, office " + of, five.now().person(of, 1), 2);
            isRefused("seven by two, office " + of, five, -3, (x, k) -> x.person(of, 2));
            isRefused("seven by one, office " + of, six, -3, (x, k) -> x.person(of, 1));
            isRefused("nine, office " + of, six, -3, (x, k) -> x.person(of, 3));
            DUE.is("none more, office " + of, six.now().person(of, 0), 2);
            DUE.is("the other office " + of, six.now().person(3 - of, 3), 2);
            DUE.is("without office " + of, six.now().person(0, 3), 2);
        }
        isRefused("nine groups", RefusedTest::full, -3, (x, k) -> x.group());
    }

    private static NoDayForIt typed(int bytes) {
        NoDayForIt x = new NoDayForIt();
        Due.type(x, " ".repeat(bytes));
        return x;
    }

    private static NoDayForIt withTimes(int office, int... times) {
        NoDayForIt x = new NoDayForIt();
        for (int t : times) {
            x.person(office, t);
        }
        return x;
    }

    /** "-10 less FAULT: nothing changes." */
    private static void faultChangesNothing() {
        String[] texts = {"year 20;days 0 19 dark;bill;step free after 0;bill;step dark after 0",
            "year 60;days 0 59 holy;bill;bill;bill;", "year 9;", ";", "$", "year 20;bill;step"};
        int[] places = {68, 33, 5, 0, 0, 17};
        Made[] states = {NoDayForIt::new, RefusedTest::busy, RefusedTest::carriedAndVoid,
            RefusedTest::lastDay};
        for (int i = 0; i < texts.length; i++) {
            String text = texts[i];
            for (Made from : states) {
                Made withText = () -> {
                    NoDayForIt x = from.now();
                    x.clear();
                    Due.type(x, text);
                    return x;
                };
                isRefused("fault of " + text, withText, -10 - places[i], (x, k) -> x.law());
            }
        }
    }

    /** What is only asked changes nothing, too. */
    private static void asksChangeNothing() {
        Consumer<NoDayForIt> asks = x -> {
            for (int b = 0; b < 2; b++) {
                x.soon(b, -1);
                x.against(b);
                x.sure(b, 2, 2);
                x.delay(b, 0);
                x.stop(b, 1);
                x.may(b, 1, 2, 5);
            }
            x.mended(2);
            x.ride(1, 1);
            x.tears(63);
        };
        Made[] states = {NoDayForIt::new, RefusedTest::busy, RefusedTest::lastDay};
        for (Made from : states) {
            NoDayForIt x = from.now();
            asks.accept(x);
            DUE.is("asks change nothing", face(x).equals(face(from.now())) ? 1 : 0, 1);
        }
    }
}
