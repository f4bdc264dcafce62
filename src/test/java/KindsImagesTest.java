/** Promises 26 to 30: prices by kinds, images, counts, the trace. */
public final class KindsImagesTest {
    private static final Due DUE = new Due("KindsImagesTest");
    private static final String LAW = "year 12;days 3 4 dark;bill;step free dark after 0 voice;"
        + "step dark after 1;step free after 0;";

    public static void main(String[] args) {
        price();
        keep();
        back();
        backPeople();
        backAhead();
        count();
        trace();
        DUE.end();
    }

    private static void price() {
        NoDayForIt x = Due.withLaw(LAW);
        int[] free = {1, 3, 3, 14, 1, 3, 0};
        int[] dark = {4, 6, 12, 20, 4, 6, 2};
        for (int kind = 0; kind < 7; kind++) {
            DUE.is("26: a free day, kind " + kind, x.price(kind, 0), free[kind]);
            DUE.is("26: a dark day, kind " + kind, x.price(kind, 3), dark[kind]);
        }
        DUE.is("26: kind 7", x.price(7, 0), -1);
        DUE.is("26: kind -1", x.price(-1, 0), -1);
        DUE.is("26: day 12", x.price(0, 12), -1);
        DUE.is("26: day -1", x.price(0, -1), -1);
        DUE.is("26: the last day", x.price(3, 11), 3);
        x.person(2, 2);
        x.act(3, 0, 4);
        DUE.is("26: made holy", x.price(4, 4), 8);
        DUE.is("26: by now", x.price(1, 4), 3);
        NoDayForIt y = Due.withLaw("year 12;days 2 2 holy;bill;step holy after 0;"
            + "bill;step holy dark after 0;");
        DUE.is("26: holy as told", y.price(4, 2), 3);
        DUE.is("26: both bills", y.price(1, 2), 5);
        DUE.is("26: join", y.price(5, 2), 10);
        DUE.is("26: half, rounded down", y.price(6, 2), 1);
        DUE.is("26: no bill has steps", Due.withLaw("bill;").price(5, 0), 0);
    }

    private static void keep() {
        NoDayForIt x = Due.withLaw(LAW);
        x.person(1, 1);
        DUE.is("27: no acts", x.keep(0), 0);
        x.act(5, 0, 0);
        x.act(4, 0, 0);
        DUE.is("27: acts", x.keep(1), 2);
        DUE.is("27: image 2", x.keep(2), -1);
        DUE.is("27: image -1", x.keep(-1), -1);
        DUE.is("27: the first stands", x.back(0), 0);
        DUE.is("27: kept anew", x.keep(1), 0);
        DUE.is("27: is anew", x.back(1), 0);
    }

    private static void back() {
        NoDayForIt x = Due.withLaw(LAW);
        DUE.is("28: none kept", x.back(0), -2);
        DUE.is("28: image 2", x.back(2), -1);
        DUE.is("28: image -1", x.back(-1), -1);
        x.person(1, 3);
        x.person(2, 3);
        x.act(4, 0, 0);
        x.act(5, 0, 0);
        x.act(2, 1, 0);
        x.act(3, 1, 8);
        x.keep(1);
        x.act(3, 1, 9);
        x.act(4, 0, 0);
        x.act(5, 0, 0);
        x.act(0, 0, 0);
        x.act(1, 0, 0);
        x.act(4, 0, 0);
        x.group();
        x.word(0, 1, 0, 0);
        x.price(0, 0);
        Due.type(x, "bill;");
        DUE.is("28: the other one", x.back(0), -2);
        DUE.is("28: acts", x.back(1), 4);
        DUE.is("28: today", x.now(0), 1);
        DUE.is("28: acts", x.now(1), 4);
        DUE.is("28: slips", x.now(2), 1);
        DUE.is("28: first slip", x.now(3), 0);
        DUE.is("28: watched", x.now(4), 1);
        DUE.is("28: void", x.now(6), 0);
        DUE.is("28: done", x.bill(0, 1), 0);
        DUE.is("28: last", x.bill(0, 2), -9);
        DUE.is("28: times", x.who(0, 2), 3);
        DUE.is("28: times", x.who(1, 2), 1);
        DUE.is("28: holy", x.day(8), 2);
        DUE.is("28: not holy", x.day(9), 0);
        DUE.is("28: groups stay", x.count(2), 1);
        DUE.is("28: words stay", x.word(0, 0, 0, 0), 1);
        DUE.is("28: trace stays", x.trace(), 1);
        DUE.is("28: text stays", x.count(3), 5);
        x.act(5, 0, 0);
        x.act(0, 0, 0);
        DUE.is("28: again", x.back(1), 4);
        DUE.is("28: again", x.bill(0, 1), 0);
    }

    private static void backPeople() {
        NoDayForIt x = Due.withLaw(LAW);
        x.person(1, 1);
        x.keep(0);
        x.person(1, 3);
        x.act(0, 0, 0);
        x.act(1, 1, 0);
        DUE.is("28: used", x.who(1, 2), 2);
        x.back(0);
        DUE.is("28: came since", x.who(1, 2), 3);
        DUE.is("28: is still there", x.count(1), 2);
    }

    private static void backAhead() {
        NoDayForIt x = Due.withLaw(LAW);
        x.person(1, 3);
        x.person(2, 3);
        x.act(0, 0, 0);
        x.keep(0);
        x.act(1, 0, 0);
        x.keep(1);
        x.act(5, 0, 0);
        x.act(0, 0, 0);
        x.back(1);
        DUE.is("28: the forbidding is ahead", x.act(4, 0, 0), 1);
        DUE.is("28: void", x.now(6), 1);
        x.back(0);
        DUE.is("28: not void", x.now(6), 0);
        DUE.is("28: the call is ahead", x.act(1, 0, 0), 1);
        x.back(0);
        DUE.is("28: a call was today", x.act(2, 1, 0), 0);
        NoDayForIt y = Due.withLaw("year 12;bill;step free after 0 voice;"
            + "bill;step free after 0;step free after 0 voice;");
        y.person(1, 3);
        y.person(2, 3);
        Due.waitTo(y, 2);
        y.keep(1);
        y.act(0, 0, 1);
        y.act(5, 0, 0);
        y.act(0, 0, 1);
        y.keep(0);
        y.act(4, 0, 0);
        y.act(0, 0, 0);
        y.back(0);
        DUE.is("28: no slip was yet", y.now(3), -9);
        DUE.is("28: forbidden", y.act(1, 0, 0), 1);
        DUE.is("28: of the bill that was called", y.bill(1, 1), 1);
        DUE.is("28: its day is as it was", y.bill(1, 2), 2);
        y.back(1);
        DUE.is("28: no call was today", y.act(2, 1, 0), 1);
    }

    private static void count() {
        NoDayForIt x = Due.withLaw(LAW);
        x.person(1, 3);
        x.person(1, 1);
        x.person(2, 2);
        x.person(0, 3);
        x.group();
        Due.type(x, "bill");
        DUE.is("29: days", x.count(0), 12);
        DUE.is("29: people", x.count(1), 4);
        DUE.is("29: groups", x.count(2), 1);
        DUE.is("29: text", x.count(3), 4);
        DUE.is("29: voices", x.count(4), 4);
        DUE.is("29: signs", x.count(5), 2);
        DUE.is("29: made holy", x.count(6), 0);
        x.act(0, 0, 0);
        x.act(1, 1, 0);
        x.act(3, 2, 11);
        DUE.is("29: voices left", x.count(4), 3);
        DUE.is("29: signs left", x.count(5), 1);
        DUE.is("29: made holy", x.count(6), 1);
        DUE.is("29: 7", x.count(7), -1);
        DUE.is("29: -1", x.count(-1), -1);
    }

    private static void trace() {
        NoDayForIt x = Due.withLaw(LAW);
        DUE.is("30: at first", x.trace(), 0);
        long[] more = {1, 11, 101, 1101, 10001, 100011, 1000001};
        long sum = 0;
        for (int i = 0; i < 21; i++) {
            x.price(i % 7, 3);
            sum += more[i % 7];
            DUE.is("30: kind " + i % 7, x.trace(), sum);
        }
        x.price(7, 0);
        x.price(0, 12);
        DUE.is("30: not by what is BAD", x.trace(), sum);
        Due.law(x, "");
        DUE.is("30: not by a law", x.trace(), sum);
    }
}
