/** Promises 9 to 13: people, acts, what is now. */
public final class PeopleActsTest {
    private static final Due DUE = new Due("PeopleActsTest");
    private static final String LAW = "year 12;days 5 5 dark;bill;step free after 0 voice;"
        + "step free after 1 within 3 sign;bill;step free after 0;";

    public static void main(String[] args) {
        person();
        who();
        actBad();
        call();
        forbid();
        watch();
        makeHoly();
        force();
        waits();
        actAhead();
        now();
        bill();
        fallenBack();
        DUE.end();
    }

    /** A year with a voice (0), a sign (1), and one without office (2). */
    private static NoDayForIt year() {
        NoDayForIt x = Due.withLaw(LAW);
        x.person(1, 2);
        x.person(2, 3);
        x.person(0, 3);
        return x;
    }

    private static void person() {
        NoDayForIt x = new NoDayForIt();
        DUE.is("9: office -1", x.person(-1, 0), -1);
        DUE.is("9: office 3", x.person(3, 0), -1);
        DUE.is("9: times -1", x.person(0, -1), -1);
        DUE.is("9: times 4", x.person(0, 4), -1);
        DUE.is("9: first", x.person(1, 3), 0);
        DUE.is("9: second", x.person(1, 2), 1);
        DUE.is("9: 7 voices", x.person(1, 2), -3);
        DUE.is("9: 6 voices", x.person(1, 1), 2);
        DUE.is("9: signs apart", x.person(2, 3), 3);
        DUE.is("9: without office", x.person(0, 3), 4);
        DUE.is("9: without office", x.person(0, 3), 5);
        DUE.is("9: without office", x.person(0, 3), 6);
        DUE.is("9: no times", x.person(1, 0), 7);
        DUE.is("9: eight", x.person(0, 0), -3);
        DUE.is("9: BAD ahead of FULL", x.person(0, 4), -1);
        NoDayForIt y = year();
        Due.law(y, "bill;step free after 0 voice;");
        y.person(1, 3);
        y.act(0, 0, 0);
        y.act(1, 3, 0);
        DUE.is("9: together as told, not as left", y.person(1, 2), -3);
    }

    private static void who() {
        NoDayForIt x = year();
        DUE.is("10: office", x.who(1, 0), 2);
        DUE.is("10: told", x.who(0, 1), 2);
        DUE.is("10: left", x.who(0, 2), 2);
        x.act(0, 2, 0);
        x.act(1, 0, 0);
        DUE.is("10: told", x.who(0, 1), 2);
        DUE.is("10: left", x.who(0, 2), 1);
        DUE.is("10: without office", x.who(2, 2), 3);
        DUE.is("10: nobody", x.who(3, 0), -1);
        DUE.is("10: -1", x.who(-1, 0), -1);
        DUE.is("10: what 3", x.who(0, 3), -1);
        DUE.is("10: what -1", x.who(0, -1), -1);
    }

    private static void actBad() {
        NoDayForIt x = year();
        DUE.is("11: what -1", x.act(-1, 0, 0), -1);
        DUE.is("11: what 6", x.act(6, 0, 0), -1);
        DUE.is("11: nobody", x.act(5, 3, 0), -1);
        DUE.is("11: -1", x.act(5, -1, 0), -1);
        DUE.is("11: no bill", x.act(0, 0, 2), -1);
        DUE.is("11: bill -1", x.act(0, 0, -1), -1);
        DUE.is("11: no day", x.act(3, 1, 12), -1);
        DUE.is("11: day -1", x.act(3, 1, -1), -1);
        DUE.is("11: forbid of 1", x.act(1, 0, 1), -1);
        DUE.is("11: watch of 1", x.act(2, 0, 1), -1);
        DUE.is("11: force of 1", x.act(4, 0, 1), -1);
        DUE.is("11: wait of 1", x.act(5, 0, 1), -1);
        DUE.is("11: none counted", x.now(1), 0);
        DUE.is("11: no slips", x.now(2), 0);
    }

    private static void call() {
        NoDayForIt x = year();
        DUE.is("11: call", x.act(0, 2, 0), 1);
        DUE.is("11: not on the same day", x.act(0, 2, 0), 0);
        DUE.is("11: done", x.bill(0, 1), 1);
        DUE.is("11: carried", x.act(0, 2, 1), 1);
        DUE.is("11: as bits", x.now(5), 2);
        DUE.is("11: no step is left", x.act(0, 2, 1), 0);
        Due.waitTo(x, 1);
        DUE.is("11: the second", x.act(0, 0, 0), 1);
        DUE.is("11: both", x.now(5), 3);
        NoDayForIt y = Due.withLaw("year 10;days 0 0 dark;bill;bill;step free after 0;");
        y.person(0, 0);
        DUE.is("11: no steps", y.act(0, 0, 0), 0);
        DUE.is("11: not its kind", y.act(0, 0, 1), 0);
        DUE.is("11: slips", y.now(2), 2);
    }

    private static void forbid() {
        NoDayForIt x = year();
        DUE.is("11: nothing to forbid", x.act(1, 0, 0), 0);
        x.act(0, 2, 0);
        DUE.is("11: without office", x.act(1, 2, 0), 0);
        DUE.is("11: behind a slip", x.act(1, 0, 0), 0);
        NoDayForIt y = year();
        y.act(0, 2, 0);
        DUE.is("11: forbidden", y.act(1, 0, 0), 1);
        DUE.is("11: undone", y.bill(0, 1), 0);
        DUE.is("11: no day", y.bill(0, 2), -9);
        DUE.is("11: only once", y.act(1, 0, 0), 0);
        DUE.is("11: again that day", y.act(0, 2, 0), 1);
        DUE.is("11: and again", y.act(1, 0, 0), 1);
        DUE.is("11: none left", y.who(0, 2), 0);
        y.act(0, 2, 0);
        DUE.is("11: no times", y.act(1, 0, 0), 0);
        Due.waitTo(y, 2);
        y.act(0, 2, 0);
        DUE.is("11: was carried", y.now(5), 1);
        DUE.is("11: by sign", y.act(1, 1, 0), 1);
        DUE.is("11: not carried", y.now(5), 0);
        DUE.is("11: as ahead of it", y.bill(0, 1), 1);
        DUE.is("11: the day, too", y.bill(0, 2), 0);
        NoDayForIt z = year();
        z.act(0, 2, 0);
        DUE.is("11: sign not told", z.act(1, 1, 0), 0);
        z.act(0, 2, 1);
        DUE.is("11: nobody told", z.act(1, 0, 0), 0);
    }

    private static void watch() {
        NoDayForIt x = year();
        DUE.is("11: voice can't watch", x.act(2, 0, 0), 0);
        DUE.is("11: watch", x.act(2, 1, 0), 1);
        DUE.is("11: times", x.who(1, 2), 2);
        DUE.is("11: watched", x.now(4), 1);
        DUE.is("11: watched already", x.act(2, 1, 0), 0);
        DUE.is("11: no call", x.act(0, 2, 0), 0);
        x.act(5, 2, 0);
        DUE.is("11: the next day is not", x.now(4), 0);
        DUE.is("11: call", x.act(0, 2, 0), 1);
        DUE.is("11: behind a call", x.act(2, 1, 0), 0);
        NoDayForIt y = year();
        y.act(0, 2, 0);
        y.act(1, 0, 0);
        DUE.is("11: behind a call forbidden", y.act(2, 1, 0), 0);
        y.act(5, 2, 0);
        DUE.is("11: the next day", y.act(2, 1, 0), 1);
        y.act(5, 2, 0);
        y.act(2, 1, 0);
        y.act(5, 2, 0);
        y.act(2, 1, 0);
        y.act(5, 2, 0);
        DUE.is("11: no times", y.act(2, 1, 0), 0);
        NoDayForIt z = year();
        z.act(2, 1, 0);
        z.act(0, 2, 0);
        z.act(5, 2, 0);
        z.act(0, 2, 1);
        DUE.is("11: behind a call of the other bill", z.act(2, 1, 0), 0);
    }

    private static void makeHoly() {
        NoDayForIt x = year();
        DUE.is("11: voice can't", x.act(3, 0, 3), 0);
        DUE.is("11: today", x.act(3, 1, 0), 0);
        DUE.is("11: holy", x.act(3, 1, 3), 1);
        DUE.is("11: is holy", x.day(3), 2);
        DUE.is("11: already", x.act(3, 1, 3), 0);
        DUE.is("11: a dark one", x.act(3, 1, 5), 1);
        DUE.is("11: the last day", x.act(3, 1, 11), 1);
        DUE.is("11: no times", x.act(3, 1, 8), 0);
        DUE.is("11: how many", x.count(6), 3);
        NoDayForIt y = Due.withLaw("year 10;days 4 4 holy;");
        y.person(2, 1);
        DUE.is("11: holy as told", y.act(3, 0, 4), 0);
        Due.waitTo(y, 6);
        DUE.is("11: earlier", y.act(3, 0, 5), 0);
        DUE.is("11: later", y.act(3, 0, 7), 1);
    }

    private static void force() {
        NoDayForIt x = year();
        DUE.is("11: nothing to force", x.act(4, 2, 0), 0);
        x.act(0, 2, 0);
        DUE.is("11: behind a call", x.act(4, 2, 0), 0);
        NoDayForIt y = year();
        y.act(0, 2, 0);
        y.act(1, 0, 0);
        DUE.is("11: force", y.act(4, 2, 0), 1);
        DUE.is("11: done", y.bill(0, 1), 1);
        DUE.is("11: on that day", y.bill(0, 2), 0);
        DUE.is("11: void", y.now(6), 1);
        DUE.is("11: can't be forbidden", y.act(1, 0, 0), 0);
        y.act(5, 2, 0);
        DUE.is("11: a void one is called on", y.act(0, 2, 0), 1);
        DUE.is("11: all is done", y.bill(0, 1), 2);
        DUE.is("11: never carried", y.now(5), 0);
        DUE.is("11: no more", y.act(0, 2, 0), 0);
        NoDayForIt z = year();
        z.act(0, 2, 0);
        z.act(1, 0, 0);
        z.act(5, 2, 0);
        DUE.is("11: not the next day", z.act(4, 2, 0), 0);
        z.act(0, 2, 0);
        z.act(1, 0, 0);
        z.act(5, 9, 0);
        DUE.is("11: what is BAD is no act", z.act(4, 2, 0), 1);
    }

    private static void waits() {
        NoDayForIt x = Due.withLaw("year 10;");
        x.person(0, 0);
        for (int d = 1; d < 10; d++) {
            DUE.is("11: wait", x.act(5, 0, 0), 1);
            DUE.is("11: today", x.now(0), d);
        }
        DUE.is("11: no next day", x.act(5, 0, 0), 0);
        DUE.is("11: the last day", x.now(0), 9);
    }

    private static void actAhead() {
        NoDayForIt x = year();
        x.act(0, 2, 0);
        x.act(3, 1, 9);
        DUE.is("11: another act is between", x.act(1, 0, 0), 0);
        x.act(0, 2, 1);
        x.act(0, 2, 1);
        DUE.is("11: a slip is between", x.act(1, 0, 0), 0);
        DUE.is("11: number of the first slip", x.now(3), 2);
    }

    private static void now() {
        NoDayForIt x = year();
        x.act(5, 0, 0);
        x.act(2, 1, 0);
        x.act(0, 0, 0);
        x.act(0, 0, 0);
        DUE.is("12: today", x.now(0), 1);
        DUE.is("12: acts", x.now(1), 4);
        DUE.is("12: slips", x.now(2), 2);
        DUE.is("12: first slip", x.now(3), 2);
        DUE.is("12: watched", x.now(4), 1);
        DUE.is("12: carried", x.now(5), 0);
        DUE.is("12: void", x.now(6), 0);
        DUE.is("12: 7", x.now(7), -1);
        DUE.is("12: -1", x.now(-1), -1);
    }

    private static void bill() {
        NoDayForIt x = year();
        DUE.is("13: steps", x.bill(0, 0), 2);
        DUE.is("13: none done", x.bill(0, 1), 0);
        DUE.is("13: no day", x.bill(0, 2), -9);
        Due.waitTo(x, 2);
        x.act(0, 0, 0);
        DUE.is("13: done", x.bill(0, 1), 1);
        DUE.is("13: day", x.bill(0, 2), 2);
        DUE.is("13: the other", x.bill(1, 1), 0);
        DUE.is("13: bill 2", x.bill(2, 0), -1);
        DUE.is("13: bill -1", x.bill(-1, 0), -1);
        DUE.is("13: what 3", x.bill(0, 3), -1);
        DUE.is("13: what -1", x.bill(0, -1), -1);
    }

    private static void fallenBack() {
        NoDayForIt x = year();
        x.act(0, 0, 0);
        Due.waitTo(x, 3);
        DUE.is("13: within", x.bill(0, 1), 1);
        Due.waitTo(x, 4);
        DUE.is("13: fallen back", x.bill(0, 1), 0);
        DUE.is("13: no day", x.bill(0, 2), -9);
        DUE.is("13: the first is next", x.act(0, 0, 0), 1);
        x.act(1, 0, 0);
        DUE.is("13: still fallen back", x.bill(0, 1), 0);
        x.act(4, 0, 0);
        DUE.is("13: forced", x.bill(0, 2), 4);
        Due.waitTo(x, 8);
        DUE.is("13: a void one falls back, too", x.bill(0, 1), 0);
        NoDayForIt z = Due.withLaw("year 40;bill;step free after 0;step free after 0 within 9;");
        z.person(0, 0);
        Due.waitTo(z, 20);
        z.act(0, 0, 0);
        Due.waitTo(z, 29);
        DUE.is("13: nine behind 20", z.bill(0, 1), 1);
        Due.waitTo(z, 30);
        DUE.is("13: ten behind 20", z.bill(0, 1), 0);
        NoDayForIt y = Due.withLaw("year 12;bill;step free after 0;step free after 1;");
        y.person(0, 0);
        y.act(0, 0, 0);
        Due.waitTo(y, 11);
        DUE.is("13: without within", y.bill(0, 1), 1);
        y.act(0, 0, 0);
        DUE.is("13: carried does not fall", y.bill(0, 1), 2);
    }
}
