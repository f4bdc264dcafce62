/**
 * The edges that "2 THE ACTS OF THE YEAR" names, sentence by sentence in the document's order
 * (promises 10 to 13), and what images keep of these. Each sentence stands above its test.
 */
public final class EdgesActsTest {
    private static final Due DUE = new Due("EdgesActsTest");
    private static final int CALL = 0, FORBID = 1, WATCH = 2, HOLY = 3, FORCE = 4, WAIT = 5;
    private static final int VOICE = 0, SIGN = 1, NOBODY = 2;

    public static void main(String[] args) {
        atFirst();
        slips();
        slipChangesNothing();
        callByDay();
        callBySteps();
        callCarries();
        forbidAhead();
        forbidByOffice();
        forbidByTimes();
        forbidUndoes();
        watchByOffice();
        watchByCalls();
        watchOneDay();
        holyDays();
        holyByOffice();
        forceAhead();
        forceVoids();
        forceVoidsBoth();
        waits();
        actAhead();
        voidCalledOn();
        DUE.end();
    }

    /** A year of 20 days with a voice, a sign and one without office, three times each. */
    private static NoDayForIt year(String law) {
        NoDayForIt x = Due.withLaw("year 20;" + law);
        x.person(1, 3);
        x.person(2, 3);
        x.person(0, 3);
        return x;
    }

    private static NoDayForIt plain() {
        return year("bill;step free after 0 voice sign;step free after 0 voice sign;"
            + "bill;step free after 0;");
    }

    private static void lawful(String told, NoDayForIt x, int what, int p, int of) {
        int acts = x.now(1);
        int slips = x.now(2);
        DUE.is(told + " is lawful", x.act(what, p, of), 1);
        DUE.is(told + " is an act", x.now(1), acts + 1);
        DUE.is(told + " is no slip", x.now(2), slips);
    }

    private static void slip(String told, NoDayForIt x, int what, int p, int of) {
        int[] at = {x.now(0), x.now(4), x.now(5), x.now(6), x.bill(0, 1), x.bill(0, 2),
            x.bill(1, 1), x.bill(1, 2), x.count(4), x.count(5), x.count(6), x.who(p, 2)};
        int acts = x.now(1);
        int slips = x.now(2);
        DUE.is(told + " is a slip", x.act(what, p, of), 0);
        DUE.is(told + " is an act", x.now(1), acts + 1);
        DUE.is(told + " is counted", x.now(2), slips + 1);
        int[] then = {x.now(0), x.now(4), x.now(5), x.now(6), x.bill(0, 1), x.bill(0, 2),
            x.bill(1, 1), x.bill(1, 2), x.count(4), x.count(5), x.count(6), x.who(p, 2)};
        for (int i = 0; i < at.length; i++) {
            DUE.is(told + " changes nothing, " + i, then[i], at[i]);
        }
    }

    // "TODAY is DAY 0 at first, no STEP is done."
    private static void atFirst() {
        NoDayForIt x = plain();
        int[] first = {0, 0, 0, -9, 0, 0, 0};
        for (int what = 0; what < 7; what++) {
            DUE.is("at first, now " + what, x.now(what), first[what]);
        }
        for (int b = 0; b < 2; b++) {
            DUE.is("no step is done", x.bill(b, 1), 0);
            DUE.is("of no day", x.bill(b, 2), -9);
        }
    }

    // "(nothing comes of it but that it is counted; the first SLIP's number is kept; ACTS are
    // numbered from 0)"
    private static void slips() {
        NoDayForIt x = plain();
        x.act(FORCE, VOICE, 0);
        DUE.is("the first act is number 0", x.now(3), 0);
        x.act(FORCE, VOICE, 0);
        DUE.is("the first is kept", x.now(3), 0);
        DUE.is("two slips", x.now(2), 2);
        NoDayForIt y = plain();
        y.act(WAIT, VOICE, 0);
        y.act(WAIT, VOICE, 0);
        DUE.is("none yet", y.now(3), -9);
        y.act(6, VOICE, 0);
        y.act(FORBID, VOICE, 0);
        DUE.is("what is BAD has no number", y.now(3), 2);
        y.act(WAIT, VOICE, 0);
        y.act(FORBID, VOICE, 0);
        DUE.is("still the first", y.now(3), 2);
        DUE.is("acts", y.now(1), 5);
        DUE.is("slips", y.now(2), 2);
        NoDayForIt z = plain();
        for (int i = 0; i < 400; i++) {
            z.act(FORCE, NOBODY, 0);
        }
        DUE.is("400 acts", z.now(1), 400);
        DUE.is("400 slips", z.now(2), 400);
        DUE.is("the first of 400", z.now(3), 0);
    }

    private static void slipChangesNothing() {
        NoDayForIt x = plain();
        slip("forbid", x, FORBID, VOICE, 0);
        slip("watch", x, WATCH, VOICE, 0);
        slip("holy", x, HOLY, SIGN, 0);
        slip("force", x, FORCE, NOBODY, 0);
        x.act(CALL, NOBODY, 1);
        slip("call", x, CALL, NOBODY, 1);
        Due.waitTo(x, 19);
        slip("wait", x, WAIT, NOBODY, 0);
    }

    // "0 CALL .. Lawful, if the STEP may be done TODAY"
    private static void callByDay() {
        NoDayForIt x = year("days 0 1 dark;days 5 7 market;bill;step free after 9;"
            + "step free market after 2 within 4;step free after 2 market within 9;");
        slip("dark", x, CALL, NOBODY, 0);
        Due.waitTo(x, 2);
        lawful("free, whatever is after", x, CALL, NOBODY, 0);
        slip("the same day, after 2", x, CALL, NOBODY, 0);
        Due.waitTo(x, 3);
        slip("a day behind, after 2", x, CALL, NOBODY, 0);
        Due.waitTo(x, 6);
        lawful("just within", x, CALL, NOBODY, 0);
        Due.waitTo(x, 8);
        slip("one market behind 6", x, CALL, NOBODY, 0);
        NoDayForIt y = year("days 5 7 market;bill;step free after 0;step free after 2 market;");
        Due.waitTo(y, 4);
        y.act(CALL, NOBODY, 0);
        Due.waitTo(y, 6);
        slip("markets, but not its kind", y, CALL, NOBODY, 0);
        Due.waitTo(y, 8);
        lawful("three markets behind", y, CALL, NOBODY, 0);
        NoDayForIt z = year("bill;step free after 0;step free after 1 within 1;");
        z.act(CALL, NOBODY, 0);
        Due.waitTo(z, 2);
        lawful("beyond within it is the first that is called", z, CALL, NOBODY, 0);
        DUE.is("one is done", z.bill(0, 1), 1);
        DUE.is("today", z.bill(0, 2), 2);
        z.act(HOLY, SIGN, 3);
        Due.waitTo(z, 3);
        slip("a day made holy", z, CALL, NOBODY, 0);
    }

    // "TODAY is not WATCHED, the BILL has such a STEP"
    private static void callBySteps() {
        NoDayForIt x = plain();
        x.act(WATCH, SIGN, 0);
        slip("watched", x, CALL, NOBODY, 0);
        slip("watched, the other bill", x, CALL, NOBODY, 1);
        Due.waitTo(x, 1);
        lawful("the next day", x, CALL, NOBODY, 0);
        lawful("the second, the same day", x, CALL, NOBODY, 0);
        slip("there is no third", x, CALL, NOBODY, 0);
        lawful("the other's first", x, CALL, NOBODY, 1);
        slip("the other has no second", x, CALL, NOBODY, 1);
        NoDayForIt y = year("bill;");
        slip("begun, without steps", y, CALL, NOBODY, 0);
        slip("not begun", y, CALL, NOBODY, 1);
        NoDayForIt z = new NoDayForIt();
        z.person(0, 0);
        slip("a new object's", z, CALL, 0, 0);
    }

    // "When the last one is done it is CARRIED."
    private static void callCarries() {
        NoDayForIt x = plain();
        x.act(CALL, NOBODY, 0);
        DUE.is("not by the first of two", x.now(5), 0);
        x.act(CALL, NOBODY, 0);
        DUE.is("by the last of two", x.now(5), 1);
        x.act(CALL, NOBODY, 1);
        DUE.is("by the last of one", x.now(5), 3);
        DUE.is("none without steps", year("bill;").now(5), 0);
        NoDayForIt y = year("bill;bill;" + "step free after 0;".repeat(4));
        for (int k = 1; k <= 4; k++) {
            lawful("step " + k, y, CALL, NOBODY, 1);
            DUE.is("carried by four " + k, y.now(5), k == 4 ? 2 : 0);
        }
    }

    // "1 FORBID: lawful, if the ACT ahead is a lawful CALL of TODAY"
    private static void forbidAhead() {
        slip("nothing ahead", plain(), FORBID, VOICE, 0);
        int[][] between = {{WATCH, SIGN, 0, 0}, {HOLY, SIGN, 9, 1}, {HOLY, VOICE, 9, 0},
            {FORCE, VOICE, 0, 0}, {WAIT, VOICE, 0, 1}, {FORBID, NOBODY, 0, 0}, {FORBID, SIGN, 0, 1}};
        for (int[] act : between) {
            NoDayForIt x = plain();
            x.act(CALL, NOBODY, 0);
            String told = "act " + act[0] + " by " + act[1];
            DUE.is(told, x.act(act[0], act[1], act[2]), act[3]);
            slip(told + " is between", x, FORBID, VOICE, 0);
        }
        NoDayForIt y = plain();
        y.act(CALL, NOBODY, 0);
        y.act(CALL, NOBODY, 0);
        slip("behind it a call that was a slip", slipCalled(), FORBID, VOICE, 0);
        lawful("of two calls the last", y, FORBID, VOICE, 0);
        DUE.is("the last is undone", y.bill(0, 1), 1);
        slip("and not the one ahead of it", y, FORBID, VOICE, 0);
        y.act(CALL, NOBODY, 0);
        y.act(CALL, NOBODY, 1);
        slip("the other's may not be forbidden", y, FORBID, VOICE, 0);
        NoDayForIt z = plain();
        z.act(CALL, NOBODY, 0);
        z.act(FORBID, 9, 0);
        z.act(FORBID, VOICE, 1);
        lawful("what is BAD is no act between", z, FORBID, VOICE, 0);
    }

    private static NoDayForIt slipCalled() {
        NoDayForIt x = year("bill;step free after 0 voice;step dark after 0 voice;");
        x.act(CALL, NOBODY, 0);
        x.act(CALL, NOBODY, 0);
        DUE.is("a slip", x.now(2), 1);
        return x;
    }

    // "its STEP may be forbidden by the person's OFFICE"
    private static void forbidByOffice() {
        String[] who = {"", " voice", " sign", " voice sign"};
        for (int bits = 0; bits < 4; bits++) {
            for (int p = 0; p < 3; p++) {
                NoDayForIt x = year("bill;step free after 0" + who[bits] + ";");
                x.act(CALL, NOBODY, 0);
                boolean may = p < 2 && (bits >> p & 1) == 1;
                DUE.is("forbid" + who[bits] + " by " + p, x.act(FORBID, p, 0), may ? 1 : 0);
                DUE.is("times" + who[bits] + " by " + p, x.who(p, 2), may ? 2 : 3);
                DUE.is("done" + who[bits] + " by " + p, x.bill(0, 1), may ? 0 : 1);
            }
        }
        NoDayForIt y = year("bill;step free after 0 voice;step free after 0 sign;");
        y.act(CALL, NOBODY, 0);
        y.act(CALL, NOBODY, 0);
        slip("the first's office for the second", y, FORBID, VOICE, 0);
        NoDayForIt z = year("bill;step free after 0 voice;step free after 0 sign;");
        z.act(CALL, NOBODY, 0);
        z.act(CALL, NOBODY, 0);
        lawful("the second's office", z, FORBID, SIGN, 0);
    }

    // "the person has TIMES left: .. TIMES 1 less"
    private static void forbidByTimes() {
        for (int times = 0; times <= 3; times++) {
            NoDayForIt x = Due.withLaw("bill;step free after 0 voice;");
            x.person(1, times);
            x.person(1, 3);
            for (int i = 0; i < times; i++) {
                lawful("again " + i, x, CALL, 0, 0);
                lawful("forbid " + i, x, FORBID, 0, 0);
                DUE.is("left " + i, x.who(0, 2), times - 1 - i);
                DUE.is("as told " + i, x.who(0, 1), times);
            }
            x.act(CALL, 0, 0);
            slip("none left of " + times, x, FORBID, 0, 0);
            DUE.is("the other's are all there", x.who(1, 2), 3);
        }
    }

    // "the STEP is undone (all of the BILL is as it was ahead of the CALL)"
    private static void forbidUndoes() {
        NoDayForIt x = year("bill;step free after 0 voice;step free after 1 voice;"
            + "step free after 0 voice;bill;step free after 0;step free after 0;");
        x.act(CALL, NOBODY, 1);
        x.act(CALL, NOBODY, 0);
        x.act(FORBID, VOICE, 0);
        DUE.is("none is done", x.bill(0, 1), 0);
        DUE.is("no day", x.bill(0, 2), -9);
        DUE.is("the other stays", x.bill(1, 1), 1);
        x.act(CALL, NOBODY, 0);
        Due.waitTo(x, 3);
        x.act(CALL, NOBODY, 0);
        x.act(FORBID, VOICE, 0);
        DUE.is("one is done", x.bill(0, 1), 1);
        DUE.is("its day as it was", x.bill(0, 2), 0);
        x.act(CALL, NOBODY, 0);
        x.act(CALL, NOBODY, 0);
        DUE.is("carried", x.now(5), 1);
        x.act(FORBID, VOICE, 0);
        DUE.is("carried no more", x.now(5), 0);
        DUE.is("two are done", x.bill(0, 1), 2);
        DUE.is("its day is today", x.bill(0, 2), 3);
        DUE.is("it is asked again", x.soon(0, -1), 3);
        NoDayForIt y = year("bill;step free after 0 voice;step free after 0 within 2 voice;");
        y.act(CALL, NOBODY, 0);
        Due.waitTo(y, 2);
        y.act(CALL, NOBODY, 0);
        y.act(FORBID, VOICE, 0);
        y.act(WAIT, NOBODY, 0);
        DUE.is("forbidden on the last day it falls back", y.bill(0, 1), 0);
        y.act(CALL, NOBODY, 0);
        y.act(FORBID, VOICE, 0);
        DUE.is("as it was: fallen back", y.bill(0, 1), 0);
        DUE.is("as it was: no day", y.bill(0, 2), -9);
    }

    // "2 WATCH: lawful for OFFICE 2 with TIMES left", "TODAY is WATCHED, TIMES 1 less"
    private static void watchByOffice() {
        slip("voice", plain(), WATCH, VOICE, 0);
        slip("without office", plain(), WATCH, NOBODY, 0);
        NoDayForIt x = plain();
        lawful("sign", x, WATCH, SIGN, 0);
        DUE.is("watched", x.now(4), 1);
        DUE.is("one less", x.who(SIGN, 2), 2);
        for (int times = 0; times <= 3; times++) {
            NoDayForIt y = Due.withLaw("");
            y.person(2, times);
            for (int i = 0; i < times; i++) {
                lawful("watch " + i, y, WATCH, 0, 0);
                y.act(WAIT, 0, 0);
            }
            slip("none left of " + times, y, WATCH, 0, 0);
            DUE.is("not watched", y.now(4), 0);
        }
    }

    // "if no lawful CALL was TODAY"
    private static void watchByCalls() {
        NoDayForIt x = plain();
        x.act(CALL, NOBODY, 1);
        slip("a call", x, WATCH, SIGN, 0);
        slip("still", x, WATCH, SIGN, 0);
        x.act(WAIT, NOBODY, 0);
        x.act(CALL, NOBODY, 1);
        lawful("a call that was a slip", x, WATCH, SIGN, 0);
        NoDayForIt y = plain();
        y.act(CALL, NOBODY, 0);
        y.act(FORBID, VOICE, 0);
        slip("a call that was forbidden", y, WATCH, SIGN, 0);
        y.act(WAIT, NOBODY, 0);
        lawful("a call of yesterday", y, WATCH, SIGN, 0);
    }

    // "and it is not WATCHED", "5 WAIT: it is the next DAY"
    private static void watchOneDay() {
        NoDayForIt x = plain();
        x.person(2, 3);
        x.act(WATCH, SIGN, 0);
        slip("watched by the same", x, WATCH, SIGN, 0);
        slip("watched by another", x, WATCH, 3, 0);
        x.act(WAIT, NOBODY, 0);
        DUE.is("the next day is not", x.now(4), 0);
        lawful("watched anew", x, WATCH, 3, 0);
        Due.waitTo(x, 19);
        lawful("the last day", x, WATCH, SIGN, 0);
        slip("no day behind it", x, WAIT, NOBODY, 0);
        DUE.is("it stays watched", x.now(4), 1);
    }

    // "3 HOLY .. if that DAY is later than TODAY and not holy: it becomes holy, TIMES 1 less"
    private static void holyDays() {
        for (int today = 0; today < 20; today += 19) {
            for (int d = 0; d < 20; d++) {
                NoDayForIt x = year("days 4 4 holy;days 6 6 dark;days 8 8 market;");
                Due.waitTo(x, today);
                boolean may = d > today && d != 4;
                String told = "holy of " + d + " on " + today;
                DUE.is(told, x.act(HOLY, SIGN, d), may ? 1 : 0);
                DUE.is(told + " kind", x.day(d), may || d == 4 ? 2 : d == 6 ? 3 : d == 8 ? 1 : 0);
                DUE.is(told + " times", x.who(SIGN, 2), may ? 2 : 3);
                DUE.is(told + " count", x.count(6), may ? 1 : 0);
            }
        }
        NoDayForIt y = year("");
        Due.waitTo(y, 10);
        slip("the day ahead", y, HOLY, SIGN, 9);
        slip("today", y, HOLY, SIGN, 10);
        lawful("the next", y, HOLY, SIGN, 11);
        slip("made holy", y, HOLY, SIGN, 11);
        lawful("the last", y, HOLY, SIGN, 19);
        DUE.is("no such day", y.act(HOLY, SIGN, 20), -1);
        DUE.is("two", y.count(6), 2);
        y.act(WAIT, NOBODY, 0);
        DUE.is("it stays holy", y.day(11), 2);
    }

    private static void holyByOffice() {
        slip("voice", plain(), HOLY, VOICE, 9);
        slip("without office", plain(), HOLY, NOBODY, 9);
        for (int times = 0; times <= 3; times++) {
            NoDayForIt y = Due.withLaw("year 60;");
            y.person(2, times);
            for (int i = 0; i < times; i++) {
                lawful("holy " + i, y, HOLY, 0, 59 - i);
            }
            slip("none left of " + times, y, HOLY, 0, 50);
            DUE.is("holy days", y.count(6), times);
        }
        NoDayForIt x = plain();
        x.act(CALL, NOBODY, 0);
        lawful("behind a call", x, HOLY, SIGN, 1);
        x.act(WAIT, NOBODY, 0);
        x.act(WATCH, SIGN, 0);
        lawful("on a day that is watched", x, HOLY, SIGN, 2);
    }

    // "4 FORCE: lawful, if the ACT ahead is a lawful FORBID of TODAY"
    private static void forceAhead() {
        slip("nothing ahead", plain(), FORCE, NOBODY, 0);
        int[][] between = {{CALL, NOBODY, 1, 1}, {CALL, NOBODY, 0, 1}, {WATCH, SIGN, 0, 0},
            {HOLY, SIGN, 9, 1}, {HOLY, VOICE, 9, 0}, {WAIT, VOICE, 0, 1}, {FORBID, VOICE, 0, 0}};
        for (int[] act : between) {
            NoDayForIt x = plain();
            x.act(CALL, NOBODY, 0);
            x.act(FORBID, VOICE, 0);
            String told = "act " + act[0] + " by " + act[1];
            DUE.is(told, x.act(act[0], act[1], act[2]), act[3]);
            slip(told + " is between", x, FORCE, NOBODY, 0);
        }
        NoDayForIt y = plain();
        y.act(CALL, NOBODY, 0);
        slip("behind a call", y, FORCE, NOBODY, 0);
        NoDayForIt z = plain();
        z.act(CALL, NOBODY, 0);
        z.act(FORBID, NOBODY, 0);
        slip("behind a forbid that was a slip", z, FORCE, NOBODY, 0);
        for (int p = 0; p < 3; p++) {
            NoDayForIt w = plain();
            w.act(CALL, NOBODY, 0);
            w.act(FORBID, SIGN, 0);
            int left = w.who(p, 2);
            lawful("by anybody " + p, w, FORCE, p, 0);
            DUE.is("at no times " + p, w.who(p, 2), left);
            slip("only once " + p, w, FORCE, p, 0);
        }
    }

    // "what it undid is done, and the BILL is VOID from then on (.. never CARRIED)"
    private static void forceVoids() {
        NoDayForIt x = plain();
        x.act(CALL, NOBODY, 0);
        Due.waitTo(x, 2);
        x.act(CALL, NOBODY, 0);
        x.act(FORBID, VOICE, 0);
        DUE.is("not void by the forbid", x.now(6), 0);
        x.act(FORCE, NOBODY, 0);
        DUE.is("both are done", x.bill(0, 1), 2);
        DUE.is("today", x.bill(0, 2), 2);
        DUE.is("void", x.now(6), 1);
        DUE.is("all is done, but not carried", x.now(5), 0);
        slip("a force is no call", x, FORBID, VOICE, 0);
        Due.waitTo(x, 19);
        DUE.is("from then on", x.now(6), 1);
        NoDayForIt y = year("bill;step free after 0;bill;step free after 0 sign;");
        y.act(CALL, NOBODY, 0);
        y.act(CALL, NOBODY, 1);
        y.act(FORBID, SIGN, 0);
        y.act(FORCE, NOBODY, 0);
        DUE.is("the one that was forbidden", y.now(6), 2);
        DUE.is("the other is carried", y.now(5), 1);
    }

    private static void forceVoidsBoth() {
        for (int first = 0; first < 2; first++) {
            NoDayForIt x = year("bill;step free after 0 voice;bill;step free after 0 voice;");
            for (int i = 0; i < 2; i++) {
                int bill = i == 0 ? first : 1 - first;
                x.act(CALL, NOBODY, bill);
                x.act(FORBID, VOICE, 0);
                lawful("force of " + bill, x, FORCE, NOBODY, 0);
                DUE.is("void, after " + i, x.now(6), i == 0 ? 1 << first : 3);
            }
            DUE.is("none is carried", x.now(5), 0);
        }
    }

    // "5 WAIT: it is the next DAY; lawful, if there is one."
    private static void waits() {
        for (int n = 10; n <= 60; n += 10) {
            NoDayForIt x = Due.withLaw("year " + n + ";");
            x.person(0, 0);
            for (int d = 1; d < n; d++) {
                x.act(WAIT, 0, 0);
            }
            DUE.is("all were lawful " + n, x.now(2), 0);
            DUE.is("the last day " + n, x.now(0), n - 1);
            slip("no next day " + n, x, WAIT, 0, 0);
        }
    }

    // "(The ACT ahead: the one with the number one less; where that was a SLIP there is none.)"
    private static void actAhead() {
        NoDayForIt x = plain();
        x.act(CALL, NOBODY, 0);
        x.act(FORCE, NOBODY, 0);
        slip("a slip is between the call and the forbid", x, FORBID, VOICE, 0);
        NoDayForIt y = plain();
        y.act(CALL, NOBODY, 0);
        y.act(FORBID, VOICE, 0);
        y.act(FORBID, VOICE, 0);
        slip("a slip is between the forbid and the force", y, FORCE, NOBODY, 0);
        NoDayForIt z = plain();
        z.act(CALL, NOBODY, 0);
        z.soon(0, -1);
        z.group();
        z.person(1, 1);
        z.keep(0);
        z.price(0, 0);
        lawful("other calls are no acts", z, FORBID, 3, 0);
    }

    // "A BILL that is VOID may be called on."
    private static void voidCalledOn() {
        NoDayForIt x = plain();
        x.act(CALL, NOBODY, 0);
        x.act(FORBID, VOICE, 0);
        x.act(FORCE, NOBODY, 0);
        lawful("called on", x, CALL, NOBODY, 0);
        DUE.is("all is done", x.bill(0, 1), 2);
        DUE.is("never carried", x.now(5), 0);
        lawful("forbidden", x, FORBID, VOICE, 0);
        DUE.is("undone", x.bill(0, 1), 1);
        DUE.is("void still", x.now(6), 1);
        lawful("forced again", x, FORCE, NOBODY, 0);
        DUE.is("void once", x.now(6), 1);
        slip("no step is left", x, CALL, NOBODY, 0);
    }
}
