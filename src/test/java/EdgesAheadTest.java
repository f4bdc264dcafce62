/**
 * The edges that "3 From TODAY on" names, sentence by sentence in the document's order (promises 14
 * to 18). Each sentence stands above its test.
 */
public final class EdgesAheadTest {
    private static final Due DUE = new Due("EdgesAheadTest");
    private static final int CALL = 0, FORBID = 1, WATCH = 2, HOLY = 3, FORCE = 4;

    public static void main(String[] args) {
        openBills();
        daysByNow();
        todayWatched();
        soonFirstAndLastDay();
        soonSteps();
        soonNone();
        rowLeftOrLastRun();
        rowOfTies();
        rowAsSoonAsMay();
        againstHowMany();
        againstAllElse();
        againstFalling();
        firstStepAhead();
        firstStepOfLastRun();
        fallsByWhatMayBeDone();
        sureForbidders();
        sureFalling();
        delays();
        stops();
        DUE.end();
    }

    /** A voice, a sign and one without office, three times each; the law is read. */
    private static NoDayForIt year(String law) {
        NoDayForIt x = Due.withLaw(law);
        x.person(1, 3);
        x.person(2, 3);
        x.person(0, 3);
        return x;
    }

    /** All that is asked of a bill: SOON, SURE by none and by all, DELAY, STOP. */
    private static void brought(String told, NoDayForIt x, int bill, int soon) {
        boolean isNone = soon < 0;
        DUE.is(told + ": soon", x.soon(bill, -1), soon);
        DUE.is(told + ": sure by none", x.sure(bill, 0, 0), soon);
        DUE.is(told + ": sure by all", x.sure(bill, 6, 6), soon);
        for (int p = 0; p < 3; p++) {
            DUE.is(told + ": delay of " + p, x.delay(bill, p), isNone ? -2 : 0);
        }
        DUE.is(told + ": stop", x.stop(bill, 0), isNone ? 0 : -9);
        DUE.is(told + ": stop set", x.stop(bill, 1), isNone ? 0 : -9);
    }

    private static void row(String told, NoDayForIt x, int bill, int... days) {
        brought(told, x, bill, days[days.length - 1]);
        for (int k = 0; k < days.length; k++) {
            DUE.is(told + ": step " + k, x.soon(bill, k), days[k]);
        }
        for (int k = days.length; k < 6; k++) {
            DUE.is(told + ": beyond " + k, x.soon(bill, k), -1);
        }
    }

    // "of a BILL that has STEPS and is not CARRIED nor VOID (else STATE)"
    private static void openBills() {
        NoDayForIt x = year("bill;step free after 0 voice;bill;");
        row("open", x, 0, 0);
        DUE.is("no steps", x.soon(1, -1), -2);
        x.act(CALL, 0, 0);
        DUE.is("carried", x.soon(0, -1), -2);
        DUE.is("carried", x.against(0), -2);
        DUE.is("carried", x.sure(0, 0, 0), -2);
        DUE.is("carried", x.delay(0, 0), -2);
        DUE.is("carried", x.stop(0, 0), -2);
        x.act(FORBID, 0, 0);
        row("forbidden, open again", x, 0, 0);
        x.act(FORCE, 0, 0);
        DUE.is("void", x.soon(0, -1), -2);
        NoDayForIt y = year("bill;step free after 0 voice;step free after 1 within 1;");
        y.act(CALL, 0, 0);
        y.act(FORBID, 0, 0);
        y.act(FORCE, 0, 0);
        Due.waitTo(y, 5);
        DUE.is("void and fallen back", y.bill(0, 1), 0);
        DUE.is("void still: soon", y.soon(0, -1), -2);
        DUE.is("void still: against", y.against(0), -2);
        DUE.is("void still: sure", y.sure(0, 6, 0), -2);
        DUE.is("void still: delay", y.delay(0, 2), -2);
        DUE.is("void still: stop", y.stop(0, 1), -2);
    }

    // "on the DAYS as they are by now"
    private static void daysByNow() {
        NoDayForIt x = year("year 10;days 0 7 dark;bill;step free after 0;"
            + "bill;step holy after 0;");
        row("as told", x, 0, 8);
        DUE.is("no holy day", x.soon(1, -1), -9);
        DUE.is("one against", x.against(1), 1);
        x.act(HOLY, 1, 8);
        row("8 is holy by now", x, 0, 9);
        row("8 is holy by now", x, 1, 8);
        DUE.is("none against", x.against(1), 0);
        x.act(HOLY, 1, 9);
        brought("none is free by now", x, 0, -9);
        DUE.is("one against", x.against(0), 1);
        Due.waitTo(x, 9);
        row("the last day", x, 1, 9);
        NoDayForIt y = year("year 10;days 3 4 market;bill;step free after 0;"
            + "step free holy after 2 market;");
        row("two markets", y, 0, 0, 5);
        y.act(HOLY, 1, 4);
        brought("one market by now", y, 0, -9);
        DUE.is("markets are not of kinds", y.against(0), -9);
    }

    // "(TODAY WATCHED: nothing is done on it)"
    private static void todayWatched() {
        NoDayForIt x = year("year 10;bill;step free after 0;step free after 0;"
            + "bill;step free dark after 0;step free after 0 within 1;");
        row("not watched", x, 0, 0, 0);
        x.act(WATCH, 1, 0);
        row("watched", x, 0, 1, 1);
        Due.waitTo(x, 1);
        row("the next day is not", x, 0, 1, 1);
        x.act(CALL, 0, 1);
        Due.waitTo(x, 2);
        x.act(WATCH, 1, 0);
        row("watched on the last that is within", x, 1, 3, 3);
        DUE.is("nothing against", x.against(1), 0);
        Due.waitTo(x, 9);
        row("the last day", x, 0, 9, 9);
        x.act(WATCH, 1, 0);
        brought("the last day is watched", x, 0, -9);
        DUE.is("nor against the kinds", x.against(0), -9);
        NoDayForIt y = year("year 10;days 5 5 dark;bill;step dark after 0;");
        Due.waitTo(y, 5);
        y.act(WATCH, 1, 0);
        brought("the only day is watched", y, 0, -9);
        DUE.is("one against, behind it", y.against(0), 1);
    }

    // "SOON: the soonest DAY by which it can be CARRIED, nobody forbidding"
    private static void soonFirstAndLastDay() {
        for (int n = 10; n <= 60; n += 50) {
            String far = "year " + n + ";bill;step free after 0;step free after "
                + (n - 1) + ";bill;step free after 0;";
            NoDayForIt x = year(far);
            row("first and last day of " + n, x, 0, 0, n - 1);
            DUE.is("no kind is in the way " + n, x.against(0), 0);
            x.act(5, 0, 0);
            brought("a day too late " + n, x, 0, -9);
            DUE.is("whatever the kinds " + n, x.against(0), -9);
            Due.waitTo(x, n - 1);
            row("the last day " + n, x, 1, n - 1);
            NoDayForIt y = year(far);
            y.act(CALL, 0, 0);
            row("begun " + n, y, 0, n - 1);
            Due.waitTo(y, n - 1);
            row("today, the last " + n, y, 0, n - 1);
        }
        row("from today on", laterToday(), 0, 4);
    }

    private static NoDayForIt laterToday() {
        NoDayForIt x = year("year 10;every 2 from 0 dark;bill;step dark after 0;");
        Due.waitTo(x, 3);
        return x;
    }

    // "those that are left", "(k beyond, too)"
    private static void soonSteps() {
        NoDayForIt x = year("year 12;bill;" + "step free after 0;".repeat(4));
        row("four on one day", x, 0, 0, 0, 0, 0);
        x.act(CALL, 0, 0);
        row("three", x, 0, 0, 0, 0);
        x.act(5, 0, 0);
        row("three on the next", x, 0, 1, 1, 1);
        x.act(CALL, 0, 0);
        row("two", x, 0, 1, 1);
        x.act(CALL, 0, 0);
        row("one", x, 0, 1);
        x.act(CALL, 0, 0);
        DUE.is("none is left", x.soon(0, -1), -2);
        NoDayForIt y = year("year 60;bill;step free after 0;"
            + "step free after 19 within 19;".repeat(3));
        row("far apart", y, 0, 0, 19, 38, 57);
        Due.waitTo(y, 2);
        row("just in the year", y, 0, 2, 21, 40, 59);
        Due.waitTo(y, 3);
        brought("beyond the year", y, 0, -9);
    }

    // "NONE"
    private static void soonNone() {
        NoDayForIt x = year("year 10;bill;step dark after 0;bill;step free after 0;"
            + "step free after 6 within 5;");
        brought("no such day", x, 0, -9);
        brought("within less than after", x, 1, -9);
        DUE.is("no step of a row", x.soon(0, 0), -9);
        DUE.is("no step of a row", x.soon(1, 1), -9);
        DUE.is("one against", x.against(0), 1);
        DUE.is("no way against", x.against(1), -9);
    }

    // "(those that are left, if it can be on that DAY without FALLING BACK; else all of the last
    // run, whatever FELL BACK ahead of it)"
    private static void rowLeftOrLastRun() {
        for (int w = 1; w <= 8; w++) {
            for (int dark = w; dark <= w + 1; dark++) {
                NoDayForIt x = year("year 12;days " + dark + " " + dark + " dark;bill;"
                    + "step free dark after 0;step dark after 0 within " + w + ";");
                x.act(CALL, 0, 0);
                if (dark == w) {
                    row("just within " + w, x, 0, dark);
                } else {
                    row("it fell back " + w, x, 0, dark, dark);
                }
            }
        }
        NoDayForIt y = year("year 12;days 9 9 dark;bill;step free after 0;"
            + "step dark after 0 within 3;");
        y.act(CALL, 0, 0);
        row("last run, as soon as it may", y, 0, 6, 9);
        Due.waitTo(y, 3);
        row("still begun", y, 0, 6, 9);
        Due.waitTo(y, 4);
        row("fallen back", y, 0, 6, 9);
        Due.waitTo(y, 7);
        row("later", y, 0, 7, 9);
        y.act(CALL, 0, 0);
        row("begun anew", y, 0, 9);
        Due.waitTo(y, 9);
        y.act(WATCH, 1, 0);
        brought("the dark day is watched", y, 0, -9);
    }

    private static void rowOfTies() {
        // On 8 by those left; on 8 by a last run, too: the second done on 0, it falls back on 2.
        NoDayForIt x = year("year 12;days 8 8 dark;bill;step free after 0;"
            + "step free dark after 0 within 9;step dark after 0 within 1;");
        x.act(CALL, 0, 0);
        row("both ways on 8", x, 0, 7, 8);
        // The second by 5 is too far from 8. Done on 0 it falls back on 3, sooner than on 6.
        NoDayForIt y = year("year 12;days 8 8 dark;bill;step free after 0;"
            + "step free after 0 within 5;step dark after 0 within 2;");
        y.act(CALL, 0, 0);
        row("only a last run", y, 0, 3, 6, 8);
        Due.waitTo(y, 4);
        row("by now it falls back on 6", y, 0, 6, 6, 8);
        NoDayForIt z = year("year 12;days 6 7 holy;days 8 8 dark;bill;step free holy after 0;"
            + "step free after 0 within 5;step dark after 0 within 2;");
        z.act(CALL, 0, 0);
        brought("no second near the dark day", z, 0, -9);
        DUE.is("one against", z.against(0), 1);
    }

    // "the first as soon as it may be in such a row, then the second, .."
    private static void rowAsSoonAsMay() {
        row("each as soon as it may be", year("year 20;days 12 12 dark;bill;step free after 0;"
            + "step free after 1;step free after 1;step dark after 0;"), 0, 0, 1, 2, 12);
        row("held back by the last alone", year("year 20;days 12 12 dark;bill;step free after 0;"
            + "step free after 1;step free after 1;step dark after 0 within 3;"), 0, 0, 1, 9, 12);
        row("held back one by another", year("year 20;days 12 12 dark;bill;step free after 0;"
            + "step free after 0 within 2;step free after 0 within 2;step dark after 0 within 2;"),
            0, 6, 8, 10, 12);
        row("the first ahead of the second", year("year 20;days 12 12 dark;bill;step free after 0;"
            + "step free after 0 within 9;step dark after 5;"), 0, 0, 0, 12);
        // The second on 1 would bring the third on 7 only, so it is done on 3.
        row("the day of the last counts first", year("year 20;days 5 5 dark;days 7 7 dark;bill;"
            + "step free after 0;step free after 3;step dark after 0 within 2;"), 0, 0, 3, 5);
    }

    // "AGAINST: the fewest STEPS done .. on DAYS that are not of their KINDS"
    private static void againstHowMany() {
        for (int dark = 0; dark <= 4; dark++) {
            NoDayForIt x = year("year 10;bill;" + "step dark after 1;".repeat(dark)
                + "step free after 1;".repeat(4 - dark));
            DUE.is("against " + dark, x.against(0), dark);
        }
        NoDayForIt y = year("year 10;bill;step free after 0;step dark after 0;step dark after 0;");
        DUE.is("two", y.against(0), 2);
        y.act(CALL, 0, 0);
        DUE.is("those done are not asked", y.against(0), 2);
        NoDayForIt z = year("year 10;days 9 9 dark;bill;" + "step dark after 0;".repeat(4));
        DUE.is("all on the last day", z.against(0), 0);
        Due.waitTo(z, 9);
        DUE.is("today is the last", z.against(0), 0);
        NoDayForIt w = year("year 10;days 9 9 dark;bill;step dark after 0;step dark after 1;");
        DUE.is("one on the last day", w.against(0), 1);
        Due.waitTo(w, 9);
        DUE.is("no room for the other", w.against(0), -9);
    }

    // "(all else as told); NONE"
    private static void againstAllElse() {
        DUE.is("after", year("year 10;bill;step free after 0;step free after 10;").against(0), -9);
        DUE.is("just after", year("year 10;bill;step free after 0;step free after 9;").against(0),
            0);
        DUE.is("within", year("year 10;bill;step free after 0;step free after 4 within 3;")
            .against(0), -9);
        DUE.is("markets", year("year 10;days 5 5 market;bill;step dark after 0;"
            + "step dark after 1 market;").against(0), 2);
        DUE.is("no markets", year("year 10;bill;step dark after 0;step dark after 1 market;")
            .against(0), -9);
        DUE.is("the market itself is not behind it", year("year 10;days 0 0 market;bill;"
            + "step dark after 0;step dark after 1 market;").against(0), -9);
    }

    // "(those that FALL BACK, too)"
    private static void againstFalling() {
        // Begun on 0; the market day 12 wants a dark day 11 ahead of it, 4 behind the first. Done
        // on 4 against its KIND, the second lets the run fall back on 6.
        String law = "year 14;days 11 11 dark;days 12 12 market;bill;step free after 0;"
            + "step dark after 4 within 9;step market after 1 market within 1;";
        NoDayForIt x = year(law);
        DUE.is("from the first day", x.against(0), 0);
        x.act(CALL, 0, 0);
        DUE.is("one that falls back", x.against(0), 1);
        NoDayForIt y = year("year 14;days 12 12 dark;bill;step free after 0;"
            + "step dark after 0 within 8;");
        y.act(CALL, 0, 0);
        DUE.is("falling back by itself is free", y.against(0), 0);
        Due.waitTo(y, 9);
        DUE.is("fallen back", y.against(0), 0);
        Due.waitTo(y, 13);
        DUE.is("no dark day any more", y.against(0), 1);
    }

    // "but for the first STEP of a BILL": its after, market and within hold nothing up
    private static void firstStepAhead() {
        for (int w = 1; w <= 60; w++) {
            NoDayForIt x = year("year 20;days 15 15 dark;bill;step dark after 59 market within " + w
                + ";bill;step holy after 59 market within " + w + ";step free after 0;");
            row("first, within " + w, x, 0, 15);
            DUE.is("none against, within " + w, x.against(0), 0);
            brought("no holy day, within " + w, x, 1, -9);
            DUE.is("one against, within " + w, x.against(1), 1);
            Due.waitTo(x, 14);
            row("later, within " + w, x, 0, 15);
            DUE.is("later, one against, within " + w, x.against(1), 1);
            Due.waitTo(x, 16);
            brought("too late, within " + w, x, 0, -9);
            DUE.is("too late, one against, within " + w, x.against(0), 1);
        }
    }

    /** So in the last run, too, though its first STEP is done behind another DAY. */
    private static void firstStepOfLastRun() {
        for (int w = 1; w <= 60; w++) {
            NoDayForIt x = year("year 20;days 9 9 dark;bill;step free after 59 market within " + w
                + ";step dark after 1 within 3;");
            x.act(CALL, 0, 0);
            row("last run, first within " + w, x, 0, 6, 9);
            DUE.is("last run, none against, within " + w, x.against(0), 0);
            NoDayForIt y = year("year 20;bill;step free after 59 within " + w
                + ";step dark after 1 within 3;bill;step dark after 0;");
            y.act(CALL, 0, 0);
            brought("no dark day, first within " + w, y, 0, -9);
            DUE.is("those left against, first within " + w, y.against(0), 1);
            y.word(0, 3, 1, 0);
            DUE.is("mended, first within " + w, y.mended(1), 1);
        }
    }

    // "whatever FELL BACK ahead of it": by STEPS that may be done alone
    private static void fallsByWhatMayBeDone() {
        String steps = "days 13 24 holy;days 20 20 market;days 23 23 dark;bill;step free after 0;"
            + "step free holy after 4 within 12;step free holy market after 1 market within 9;"
            + "step dark after 0 within 1;";
        NoDayForIt x = year("year 25;" + steps);
        x.act(CALL, 0, 0);
        brought("the third waits for a market, so it falls back on 13 only", x, 0, -9);
        NoDayForIt y = year("year 25;days 5 5 market;" + steps);
        y.act(CALL, 0, 0);
        row("the third on the market 5, it falls back on 7", y, 0, 7, 13, 22, 23);
    }

    // "SURE by V voices and S signs (0 .. 6 each) .. (again and again on one DAY, if it is
    // forbidden) .. one voice less, or one sign less .. NONE being the latest of all. NONE."
    private static void sureForbidders() {
        String[] who = {"", " voice", " sign", " voice sign"};
        for (String office : who) {
            NoDayForIt x = year("year 10;bill;step free after 0" + office + ";step free after 9"
                + office + ";bill;step free after 0" + office + ";step free after 10" + office
                + ";");
            for (int v = 0; v <= 6; v++) {
                for (int s = 0; s <= 6; s++) {
                    DUE.is("on the last day, " + v + " " + s + office, x.sure(0, v, s), 9);
                    DUE.is("none, " + v + " " + s + office, x.sure(1, v, s), -9);
                }
            }
            DUE.is("one voice too many", x.sure(0, 7, 6), -1);
            DUE.is("one sign too many", x.sure(0, 6, 7), -1);
        }
    }

    private static void sureFalling() {
        NoDayForIt x = year("year 10;days 6 6 dark;bill;step free after 0 voice;"
            + "step dark after 0 within 2 voice sign;");
        x.act(CALL, 0, 0);
        for (int v = 0; v <= 6; v += 3) {
            DUE.is("it falls back and is begun anew", x.sure(0, v, 6 - v), 6);
        }
        x.act(FORBID, 0, 0);
        DUE.is("forbidden", x.sure(0, 6, 6), 6);
        Due.waitTo(x, 6);
        x.act(WATCH, 1, 0);
        DUE.is("the dark day is watched", x.sure(0, 0, 0), -9);
    }

    // "DELAY of a person (with TIMES as they are left): SURE by them alone less SOON; ..; STATE too:
    // SOON is NONE."
    private static void delays() {
        NoDayForIt x = year("year 10;bill;step free after 0 voice sign;bill;step dark after 0;");
        for (int p = 0; p < 3; p++) {
            DUE.is("forbidden as often as they can, " + p, x.delay(0, p), 0);
            DUE.is("soon is none, " + p, x.delay(1, p), -2);
        }
        DUE.is("nobody", x.delay(0, 3), -1);
        DUE.is("nobody, and soon is none", x.delay(1, 3), -1);
        for (int i = 0; i < 3; i++) {
            x.act(CALL, 0, 0);
            x.act(FORBID, 0, 0);
        }
        DUE.is("no times left", x.delay(0, 0), 0);
        x.act(CALL, 0, 0);
        DUE.is("carried", x.delay(0, 1), -2);
    }

    // "STOP: the fewest PEOPLE .. SURE is NONE, of several the least set (bits); NONE: not by all."
    private static void stops() {
        NoDayForIt x = Due.withLaw("year 10;bill;step free after 0 voice sign;"
            + "bill;step dark after 0 voice sign;");
        for (int p = 0; p <= 8; p++) {
            DUE.is("not by " + p, x.stop(0, 0), -9);
            DUE.is("no set of " + p, x.stop(0, 1), -9);
            DUE.is("by nobody of " + p, x.stop(1, 0), 0);
            DUE.is("the set of nobody of " + p, x.stop(1, 1), 0);
            x.person(p % 3, p < 6 ? 3 : 0);
        }
        DUE.is("eight people", x.count(1), 8);
        DUE.is("six voices", x.count(4), 6);
        DUE.is("six signs", x.count(5), 6);
    }
}
