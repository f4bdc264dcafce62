/** Promises 1 to 8: a new object, the text, the law, its days and steps. */
public final class LawsTest {
    private static final Due DUE = new Due("LawsTest");

    public static void main(String[] args) {
        newObject();
        type();
        clear();
        law();
        faults();
        faultsOfTokens();
        day();
        days();
        step();
        may();
        DUE.end();
    }

    private static void newObject() {
        NoDayForIt x = new NoDayForIt();
        DUE.is("1: BAD", NoDayForIt.BAD, -1);
        DUE.is("1: STATE", NoDayForIt.STATE, -2);
        DUE.is("1: FULL", NoDayForIt.FULL, -3);
        DUE.is("1: NONE", NoDayForIt.NONE, -9);
        DUE.is("1: days", x.count(0), 30);
        DUE.is("1: people", x.count(1), 0);
        DUE.is("1: groups", x.count(2), 0);
        DUE.is("1: text", x.count(3), 0);
        DUE.is("1: all free", x.days(0, 0, 29), 30);
        DUE.is("1: today", x.now(0), 0);
        DUE.is("1: no slip", x.now(3), -9);
        DUE.is("1: no steps", x.bill(1, 0), 0);
        DUE.is("1: none is carried", x.now(5), 0);
        DUE.is("1: no last day", x.bill(0, 2), -9);
        DUE.is("1: trace", x.trace(), 0);
        DUE.is("1: no image", x.back(0), -2);
    }

    private static void type() {
        NoDayForIt x = new NoDayForIt();
        DUE.is("2: n 0", x.type(1, 0), -1);
        DUE.is("2: n 9", x.type(1, 9), -1);
        DUE.is("2: one byte", x.type('b', 1), 1);
        DUE.is("2: the highest first", x.type((long) 'i' << 16 | 'l' << 8 | 'l', 3), 4);
        DUE.is("2: lowest bytes only", x.type(0x7777777777777700L | ';', 1), 5);
        DUE.is("2: it is bill;", x.law(), 1);
        for (int i = 1; i <= 49; i++) {
            DUE.is("2: eight", x.type(-1, 8), 8 * i);
        }
        DUE.is("2: 392 and 7", x.type(0, 7), 399);
        DUE.is("2: full by two", x.type(0, 2), -3);
        DUE.is("2: nothing changed", x.count(3), 399);
        DUE.is("2: BAD ahead of FULL", x.type(0, 9), -1);
        DUE.is("2: the last", x.type(0, 1), 400);
        DUE.is("2: full", x.type(0, 1), -3);
    }

    private static void clear() {
        NoDayForIt x = new NoDayForIt();
        DUE.is("3: empty", x.clear(), 0);
        Due.type(x, "year 20");
        DUE.is("3: had", x.clear(), 7);
        DUE.is("3: is empty", x.count(3), 0);
        Due.type(x, "bill;");
        DUE.is("3: only what came since", x.law(), 1);
        DUE.is("3: no year", x.count(0), 30);
    }

    private static void law() {
        NoDayForIt x = new NoDayForIt();
        DUE.is("4: items", Due.law(x, "year 12;days 0 1 dark;bill;step free after 0;bill;"), 5);
        DUE.is("4: text is empty", x.count(3), 0);
        DUE.is("4: the year", x.count(0), 12);
        DUE.is("4: steps", x.bill(0, 0), 1);
        DUE.is("4: no steps", x.bill(1, 0), 0);
        DUE.is("4: fault", Due.law(x, "year 20;bill"), -22);
        DUE.is("4: the text stays", x.count(3), 12);
        DUE.is("4: the law stays", x.count(0), 12);
        Due.type(x, ";");
        DUE.is("4: goes on", x.law(), 2);
        DUE.is("4: new year", x.count(0), 20);
        DUE.is("4: nothing told", Due.law(x, ""), 0);
        DUE.is("4: 30 days again", x.count(0), 30);
        DUE.is("4: no bills", x.bill(0, 0), 0);
        DUE.is("4: blanks", Due.law(x, "   year   60   ;   "), 1);
        DUE.is("4: no blanks", Due.law(x, "year60;every2from1holy;days0 9dark;"), 3);
        DUE.is("4: later counts", x.day(9), 3);
        DUE.is("4: every", x.day(59), 2);
        DUE.is("4: from 0", Due.law(x, "year 12;every 11 from 0 dark;"), 2);
        DUE.is("4: day 0", x.day(0), 3);
        DUE.is("4: day 1 is free again", x.day(1), 0);
        DUE.is("4: day 11", x.day(11), 3);
        lawBegins();
    }

    private static void lawBegins() {
        NoDayForIt x = new NoDayForIt();
        x.person(2, 3);
        Due.law(x, "bill;step free after 0 sign;");
        x.act(3, 0, 7);
        x.act(0, 0, 0);
        x.act(1, 0, 0);
        x.act(4, 0, 0);
        x.act(4, 0, 0);
        x.act(5, 0, 0);
        x.act(2, 0, 0);
        x.keep(0);
        x.price(0, 0);
        x.group();
        x.word(0, 2, 0, 0);
        DUE.is("4: fault changes nothing", Due.law(x, "bill;step free after 0"), -32);
        DUE.is("4: acts stand", x.now(1), 7);
        DUE.is("4: image stands", x.back(0), 7);
        Due.law(x, "bill;step free after 0 sign;");
        DUE.is("4: today", x.now(0), 0);
        DUE.is("4: acts", x.now(1), 0);
        DUE.is("4: slips", x.now(2), 0);
        DUE.is("4: first slip", x.now(3), -9);
        DUE.is("4: watched", x.now(4), 0);
        DUE.is("4: void", x.now(6), 0);
        DUE.is("4: done", x.bill(0, 1), 0);
        DUE.is("4: holy", x.day(7), 0);
        DUE.is("4: made holy", x.count(6), 0);
        DUE.is("4: times", x.who(0, 2), 3);
        DUE.is("4: people stay", x.count(1), 1);
        DUE.is("4: groups stay", x.count(2), 1);
        DUE.is("4: words stay", x.word(0, 0, 0, 0), 2);
        DUE.is("4: trace stays", x.trace(), 1);
        DUE.is("4: images are gone", x.back(0), -2);
        DUE.is("4: no act ahead", x.act(4, 0, 0), 0);
        x.act(0, 0, 0);
        x.act(1, 0, 0);
        Due.law(x, "bill;step free after 0 sign;");
        DUE.is("4: the forbidding is gone", x.act(4, 0, 0), 0);
        x.act(0, 0, 0);
        Due.law(x, "bill;step free after 0 sign;");
        DUE.is("4: the call is gone", x.act(1, 0, 0), 0);
        DUE.is("4: no call was today", x.act(2, 0, 0), 1);
        DUE.is("4: no day of a step", x.bill(0, 2), -9);
    }

    private static void fault(String text, int place) {
        DUE.is("4: " + text, Due.law(new NoDayForIt(), text), -10 - place);
    }

    private static void faults() {
        fault("year", 4);
        fault("year ", 5);
        fault("year 9;", 5);
        fault("year 61;", 5);
        fault("year 20 year 20;", 8);
        fault("year 20;year 20;", 8);
        fault("bill;year 20;", 5);
        fault("every 0 from 1 free;", 6);
        fault("every 61 from 1 free;", 6);
        fault("every 5 at 1 free;", 8);
        fault("every 5 from 60 free;", 13);
        fault("every 5 from 1;", 14);
        fault("every 5 from 1 free", 19);
        fault("days 60 60 free;", 5);
        fault("days 5 4 free;", 7);
        fault("days 5 60 free;", 7);
        fault("days 5 free;", 7);
        fault("days 5 6 grey;", 9);
        fault("bill bill;", 5);
        fault("bill;bill; bill;", 11);
        fault("step free after 0;", 0);
        fault("bill;step;", 9);
        fault("bill;step after 0;", 10);
        fault("bill;step free;", 14);
        fault("bill;step free dark free after 0;", 20);
        fault("bill;step free market holy dark dark after 0;", 32);
        fault("bill;step free after;", 20);
        fault("bill;step free after 60;", 21);
        fault("bill;step free after 0 within 0;", 30);
        fault("bill;step free after 0 within 61;", 30);
        fault("bill;step free after 0 voice within 6;", 29);
        fault("bill;step free after 0 sign voice;", 28);
        fault("bill;step free after 0 market market;", 30);
        fault("bill;step free after 0 voice sign sign;", 34);
        String four = "step free after 0;".repeat(4);
        fault("bill;" + four + "step free after 0;", 77);
        DUE.is("4: four each", Due.law(new NoDayForIt(), "bill;" + four + "bill;" + four), 10);
        DUE.is("4: all of it", Due.law(new NoDayForIt(),
            "bill;step dark holy after 59 market within 60 voice sign;"), 2);
    }

    private static void faultsOfTokens() {
        fault("Year 20;", 0);
        fault("yea 20;", 0);
        fault("years 20;", 0);
        fault("yearz 20;", 0);
        fault("zear 20;", 0);
        fault("year z;", 5);
        fault("year `;", 5);
        fault("year {;", 5);
        fault("year /;", 5);
        fault("year :;", 5);
        fault("year 020;", 5);
        fault("year 00;", 5);
        fault("year 100;", 5);
        fault("year 99999999999999999999;", 5);
        fault("days 00 5 free;", 5);
        fault("days 0 05 free;", 7);
        fault("year 20,", 7);
        fault("year 20\t;", 7);
        fault("year\u000020;", 4);
        fault("year 20;\u00a0", 8);
        fault("\u00f7", 0);
        fault("20;", 0);
        fault(";", 0);
        fault("bill;;", 5);
        fault("from 5;", 0);
        fault("voice;", 0);
        fault("bill;step free after 0x;", 22);
    }

    private static void day() {
        NoDayForIt x = Due.withLaw("year 10;every 3 from 1 market;days 7 9 holy;days 8 8 dark;");
        int[] kinds = {0, 1, 0, 0, 1, 0, 0, 2, 3, 2};
        for (int d = 0; d < 10; d++) {
            DUE.is("5: day " + d, x.day(d), kinds[d]);
        }
        DUE.is("5: no day ahead", x.day(-1), -1);
        DUE.is("5: beyond", x.day(10), -1);
        x.person(2, 1);
        x.act(3, 0, 4);
        DUE.is("5: by now", x.day(4), 2);
    }

    private static void days() {
        NoDayForIt x = Due.withLaw("year 10;every 3 from 1 market;days 7 9 holy;");
        DUE.is("6: markets", x.days(1, 0, 9), 2);
        DUE.is("6: both too", x.days(1, 1, 4), 2);
        DUE.is("6: one day", x.days(1, 4, 4), 1);
        DUE.is("6: not these", x.days(1, 2, 3), 0);
        DUE.is("6: the other ahead", x.days(0, 5, 2), 0);
        DUE.is("6: dark", x.days(3, 0, 9), 0);
        DUE.is("6: kind -1", x.days(-1, 0, 9), -1);
        DUE.is("6: kind 4", x.days(4, 0, 9), -1);
        DUE.is("6: from", x.days(0, -1, 9), -1);
        DUE.is("6: to", x.days(0, 0, 10), -1);
        DUE.is("6: BAD ahead of none", x.days(0, 10, 0), -1);
        x.person(2, 1);
        x.act(3, 0, 4);
        DUE.is("6: by now", x.days(2, 0, 9), 4);
    }

    private static void step() {
        NoDayForIt x = Due.withLaw("bill;bill;step market dark after 7;"
            + "step free after 2 market within 60 sign;step holy after 0 within 1 voice sign;");
        DUE.is("7: kinds", x.step(1, 0, 0), 10);
        DUE.is("7: after", x.step(1, 0, 1), 7);
        DUE.is("7: not market", x.step(1, 0, 2), 0);
        DUE.is("7: no within", x.step(1, 0, 3), -9);
        DUE.is("7: nobody", x.step(1, 0, 4), 0);
        DUE.is("7: market", x.step(1, 1, 2), 1);
        DUE.is("7: within", x.step(1, 1, 3), 60);
        DUE.is("7: sign", x.step(1, 1, 4), 2);
        DUE.is("7: holy", x.step(1, 2, 0), 4);
        DUE.is("7: both", x.step(1, 2, 4), 3);
        DUE.is("7: no such step", x.step(1, 3, 0), -1);
        DUE.is("7: no step", x.step(0, 0, 0), -1);
        DUE.is("7: bill", x.step(2, 0, 0), -1);
        DUE.is("7: bill -1", x.step(-1, 0, 0), -1);
        DUE.is("7: step -1", x.step(1, -1, 0), -1);
        DUE.is("7: what 5", x.step(1, 0, 5), -1);
        DUE.is("7: what -1", x.step(1, 0, -1), -1);
    }

    private static void may() {
        NoDayForIt x = Due.withLaw("year 20;every 5 from 2 market;bill;step market after 9;"
            + "step free market after 3 within 6;step free after 2 market;step free after 0;");
        DUE.is("8: first by its kind alone", x.may(0, 0, -9, 2), 1);
        DUE.is("8: not its kind", x.may(0, 0, -9, 3), 0);
        DUE.is("8: first, whatever is ahead", x.may(0, 0, 19, 2), 1);
        DUE.is("8: does not matter", x.may(0, 1, -9, 0), 1);
        DUE.is("8: does not matter, but the kind", x.may(0, 2, -9, 2), 0);
        DUE.is("8: too near", x.may(0, 1, 3, 5), 0);
        DUE.is("8: near enough", x.may(0, 1, 3, 6), 1);
        DUE.is("8: within", x.may(0, 1, 3, 9), 1);
        DUE.is("8: beyond within", x.may(0, 1, 3, 10), 0);
        DUE.is("8: one market", x.may(0, 2, 2, 11), 0);
        DUE.is("8: two markets, up to it", x.may(0, 2, 2, 13), 1);
        DUE.is("8: the day itself is none behind it", x.may(0, 2, 7, 13), 0);
        DUE.is("8: same day", x.may(0, 3, 6, 6), 1);
        DUE.is("8: ahead of the step ahead", x.may(0, 3, 6, 5), 0);
        DUE.is("8: ahead beyond", x.may(0, 0, 20, 2), -1);
        DUE.is("8: ahead -1", x.may(0, 1, -1, 2), -1);
        DUE.is("8: day beyond", x.may(0, 1, 2, 20), -1);
        DUE.is("8: day NONE", x.may(0, 1, 2, -9), -1);
        DUE.is("8: no step", x.may(0, 4, 2, 2), -1);
        DUE.is("8: no bill", x.may(2, 0, 2, 2), -1);
        NoDayForIt y = Due.withLaw("year 60;days 59 59 market;bill;step free after 0;"
            + "step market after 1 market;");
        DUE.is("8: the last market of the longest year", y.may(0, 1, 58, 59), 1);
        DUE.is("8: none behind the last day", y.may(0, 1, 59, 59), 0);
        DUE.is("14: on the last day", y.soon(0, -1), 59);
        x.person(2, 2);
        x.act(3, 0, 7);
        DUE.is("8: a market made holy", x.may(0, 2, 2, 13), 0);
        x.act(2, 0, 0);
        DUE.is("8: watched does not matter", x.may(0, 3, 0, 0), 1);
    }
}
