/** Promises 14 to 18: the days ahead. */
public final class DaysAheadTest {
    private static final Due DUE = new Due("DaysAheadTest");

    public static void main(String[] args) {
        soon();
        soonRow();
        soonFallen();
        soonFallenFar();
        soonRefused();
        against();
        sure();
        delay();
        stop();
        DUE.end();
    }

    private static void row(NoDayForIt x, int bill, int... days) {
        DUE.is("14: day", x.soon(bill, -1), days[days.length - 1]);
        for (int k = 0; k < days.length; k++) {
            DUE.is("14: step " + k, x.soon(bill, k), days[k]);
        }
        DUE.is("14: k beyond", x.soon(bill, days.length), -1);
    }

    private static void soon() {
        row(Due.withLaw("bill;step free after 0;step free after 0;"), 0, 0, 0);
        row(Due.withLaw("bill;step free after 9;step free after 3;"), 0, 0, 3);
        row(Due.withLaw("days 0 3 holy;bill;step free after 9;"), 0, 4);
        NoDayForIt x = Due.withLaw("year 10;bill;step dark after 0;");
        DUE.is("14: none", x.soon(0, -1), -9);
        DUE.is("14: none, step", x.soon(0, 0), -9);
        x.person(2, 3);
        Due.law(x, "year 10;bill;step free after 0;");
        x.act(2, 0, 0);
        row(x, 0, 1);
        x.act(3, 0, 1);
        row(x, 0, 2);
        Due.waitTo(x, 5);
        row(x, 0, 5);
        Due.waitTo(x, 9);
        x.act(2, 0, 0);
        DUE.is("14: the last day is watched", x.soon(0, -1), -9);
    }

    private static void soonRow() {
        // The first must wait for the second: within 2 of a dark day, the only one being 6.
        row(Due.withLaw("year 12;days 6 6 dark;bill;step free after 0;step dark after 1 within 2;"),
            0, 4, 6);
        // The last is held up by its own kind, so the others are as soon as they may be.
        row(Due.withLaw("year 12;days 9 9 dark;bill;step free after 0;step free after 2;"
            + "step dark after 0;"), 0, 0, 2, 9);
        // Markets behind the day ahead, up to the day itself.
        row(Due.withLaw("year 20;every 5 from 2 market;bill;step market after 0;"
            + "step free market after 2 market;"), 0, 2, 12);
        NoDayForIt x = Due.withLaw("year 12;days 6 6 dark;bill;step free after 0;"
            + "step free after 1 within 3;step dark after 0 within 2;");
        x.person(0, 0);
        Due.waitTo(x, 2);
        x.act(0, 0, 0);
        row(x, 0, 4, 6);
    }

    private static void soonFallen() {
        // Begun on 0, the dark day 6 is too far: all of the last run.
        NoDayForIt x = Due.withLaw("year 12;days 6 6 dark;bill;step free after 0;"
            + "step dark after 1 within 2;");
        x.person(0, 0);
        x.act(0, 0, 0);
        row(x, 0, 4, 6);
        // It can't fall back for want of the second STEP, only for want of the third.
        NoDayForIt y = Due.withLaw("year 20;days 15 15 dark;bill;step free after 0;"
            + "step free after 0;step dark after 0 within 1;");
        y.person(0, 0);
        y.act(0, 0, 0);
        row(y, 0, 14, 15);
        Due.waitTo(y, 14);
        y.act(0, 0, 0);
        row(y, 0, 15);
        NoDayForIt z = Due.withLaw("year 20;days 0 4 market;days 12 12 dark;bill;"
            + "step market free after 0;step market after 0;step dark after 0 within 3;");
        z.person(0, 0);
        z.act(0, 0, 0);
        DUE.is("14: no market is near the dark day", z.soon(0, -1), -9);
        // Both ways bring it on the same day: those that are left.
        NoDayForIt w = Due.withLaw("year 20;days 12 12 dark;bill;step free after 0;"
            + "step free after 0 within 5;step dark after 0;");
        w.person(0, 0);
        w.act(0, 0, 0);
        row(w, 0, 0, 12);
    }

    private static void soonFallenFar() {
        // The first is free to begin up to 12, so 13, when it falls back by itself, is too late:
        // the second and the third are done on 4, and it falls back on 6 for want of the fourth.
        NoDayForIt far = begun("year 25;days 13 24 holy;days 23 23 dark;bill;step free after 0;"
            + "step free holy after 4 within 12;step free holy after 0 within 9;"
            + "step dark after 0 within 1;");
        row(far, 0, 6, 13, 22, 23);
        Due.waitTo(far, 3);
        row(far, 0, 6, 13, 22, 23);
        // It falls back on the day behind the last that is within, not sooner.
        row(begun("year 25;days 12 12 dark;bill;step free after 0;step dark after 0 within 8;"),
            0, 9, 12);
        NoDayForIt x = begun("year 25;days 6 24 holy;days 12 12 dark;bill;step free after 0;"
            + "step dark after 0 within 5;");
        DUE.is("14: a day too late", x.soon(0, -1), -9);
        DUE.is("15: a day too late", x.against(0), 1);
        DUE.is("14: behind against", x.soon(0, -1), -9);
        DUE.is("16: behind against", x.sure(0, 0, 0), -9);
    }

    private static void soonRefused() {
        NoDayForIt x = Due.withLaw("year 12;bill;step free after 0 voice;step free after 0;bill;");
        x.person(1, 1);
        DUE.is("14: bill 2", x.soon(2, -1), -1);
        DUE.is("14: bill -1", x.soon(-1, -1), -1);
        DUE.is("14: k -2", x.soon(0, -2), -1);
        DUE.is("14: no steps", x.soon(1, -1), -2);
        DUE.is("14: no steps, k beyond", x.soon(1, 0), -1);
        NoDayForIt y = Due.withLaw("year 10;bill;step dark after 0;");
        DUE.is("14: none, the step", y.soon(0, 0), -9);
        DUE.is("14: none, k beyond", y.soon(0, 1), -1);
        x.act(0, 0, 0);
        x.act(0, 0, 0);
        DUE.is("14: carried", x.soon(0, -1), -2);
        DUE.is("14: carried", x.soon(0, 0), -2);
        DUE.is("15: carried", x.against(0), -2);
        DUE.is("16: carried", x.sure(0, 0, 0), -2);
        DUE.is("17: carried", x.delay(0, 0), -2);
        DUE.is("18: carried", x.stop(0, 0), -2);
        Due.law(x, "year 12;bill;step free after 0 voice;step free after 0;bill;");
        x.act(0, 0, 0);
        x.act(1, 0, 0);
        x.act(4, 0, 0);
        DUE.is("14: void", x.soon(0, -1), -2);
        DUE.is("15: void", x.against(0), -2);
        DUE.is("16: void", x.sure(0, 0, 0), -2);
        DUE.is("17: void", x.delay(0, 0), -2);
        DUE.is("18: void", x.stop(0, 1), -2);
    }

    private static void against() {
        NoDayForIt x = Due.withLaw("year 10;bill;step free after 0;step dark after 1;"
            + "step holy free after 0;bill;step dark after 0;step dark after 5;step dark after 5;");
        DUE.is("15: one of three", x.against(0), 1);
        DUE.is("15: no room, whatever the kinds", x.against(1), -9);
        DUE.is("15: bill 2", x.against(2), -1);
        DUE.is("15: bill -1", x.against(-1), -1);
        DUE.is("15: no steps", Due.withLaw("bill;").against(0), -2);
        DUE.is("15: none needed", Due.withLaw("bill;step free after 0;").against(0), 0);
        // The days behind one another count, though the kinds do not.
        DUE.is("15: too few markets", Due.withLaw("year 10;days 5 5 market;bill;step free after 0;"
            + "step free after 2 market;").against(0), -9);
        NoDayForIt u = Due.withLaw("year 10;bill;step free after 0;");
        u.person(2, 2);
        Due.waitTo(u, 9);
        DUE.is("15: the last day", u.against(0), 0);
        u.act(2, 0, 0);
        DUE.is("15: it is watched", u.against(0), -9);
        againstFallen();
    }

    private static NoDayForIt begun(String text) {
        NoDayForIt x = Due.withLaw(text);
        x.person(0, 0);
        x.act(0, 0, 0);
        return x;
    }

    private static void againstFallen() {
        DUE.is("15: those left", begun("year 14;days 8 8 market;bill;step free after 0;"
            + "step dark after 0;step market after 0 within 2;").against(0), 1);
        DUE.is("15: steps done are not counted", begun("year 14;bill;step free after 0;"
            + "step free after 2;").against(0), 0);
        // It falls back on 4 by itself, and is begun again.
        DUE.is("15: fallen back at no cost", begun("year 20;days 10 10 dark;bill;"
            + "step free after 0;step dark after 0 within 3;").against(0), 0);
        // By itself it falls back on 10, too late: done on 4, against its KIND, the second STEP
        // lets it fall back on 6, and the last run has its days on 6 (or 7), 11 and 12.
        String late = "days 12 12 market;bill;step free after 0;step dark after 4 within 9;"
            + "step market after 1 market within 1;";
        DUE.is("15: what falls back counts", begun("year 14;days 11 11 dark;" + late).against(0), 1);
        DUE.is("15: that and the last run's", begun("year 14;" + late).against(0), 2);
        DUE.is("14: nothing but against them", begun("year 14;days 11 11 dark;" + late).soon(0, -1),
            -9);
    }

    private static void sure() {
        NoDayForIt x = Due.withLaw("year 12;bill;step free after 0 voice sign;"
            + "step free after 2 within 2 voice sign;bill;step dark after 0;");
        for (int v = 0; v <= 6; v++) {
            for (int s = 0; s <= 6; s++) {
                DUE.is("16: called again on that day", x.sure(0, v, s), 2);
            }
        }
        DUE.is("16: none", x.sure(1, 0, 0), -9);
        DUE.is("16: none", x.sure(1, 6, 6), -9);
        DUE.is("16: v 7", x.sure(0, 7, 0), -1);
        DUE.is("16: v -1", x.sure(0, -1, 0), -1);
        DUE.is("16: s 7", x.sure(0, 0, 7), -1);
        DUE.is("16: s -1", x.sure(0, 0, -1), -1);
        DUE.is("16: bill 2", x.sure(2, 0, 0), -1);
        DUE.is("16: BAD ahead of STATE", Due.withLaw("bill;").sure(0, 7, 0), -1);
        DUE.is("16: no steps", Due.withLaw("bill;").sure(0, 6, 0), -2);
        x.person(0, 0);
        x.act(0, 0, 0);
        Due.waitTo(x, 3);
        DUE.is("16: fallen back", x.sure(0, 1, 1), 5);
    }

    private static void delay() {
        NoDayForIt x = Due.withLaw("year 12;bill;step free after 0 voice;bill;step dark after 0;");
        DUE.is("17: nobody", x.delay(0, 0), -1);
        x.person(1, 3);
        x.person(0, 3);
        DUE.is("17: voice", x.delay(0, 0), 0);
        DUE.is("17: without office", x.delay(0, 1), 0);
        DUE.is("17: p 2", x.delay(0, 2), -1);
        DUE.is("17: p -1", x.delay(0, -1), -1);
        DUE.is("17: bill 2", x.delay(2, 0), -1);
        DUE.is("17: SOON is NONE", x.delay(1, 0), -2);
        Due.law(x, "bill;");
        DUE.is("17: no steps", x.delay(0, 0), -2);
        DUE.is("17: BAD ahead of STATE", x.delay(0, 2), -1);
    }

    private static void stop() {
        NoDayForIt x = Due.withLaw("year 12;bill;step free after 0 voice;bill;step dark after 0;");
        DUE.is("18: without people", x.stop(0, 0), -9);
        x.person(1, 3);
        x.person(2, 3);
        DUE.is("18: not by all", x.stop(0, 0), -9);
        DUE.is("18: not by all", x.stop(0, 1), -9);
        DUE.is("18: nobody is needed", x.stop(1, 0), 0);
        DUE.is("18: the set", x.stop(1, 1), 0);
        DUE.is("18: what 2", x.stop(0, 2), -1);
        DUE.is("18: what -1", x.stop(0, -1), -1);
        DUE.is("18: bill 2", x.stop(2, 0), -1);
        Due.law(x, "bill;");
        DUE.is("18: no steps", x.stop(0, 0), -2);
        DUE.is("18: BAD ahead of STATE", x.stop(0, 2), -1);
    }
}
