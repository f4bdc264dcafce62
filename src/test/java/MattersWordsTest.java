/** Promises 19 to 25: groups, wishes, matters joined, words of a new law. */
public final class MattersWordsTest {
    private static final Due DUE = new Due("MattersWordsTest");

    public static void main(String[] args) {
        group();
        wish();
        passes();
        ride();
        tears();
        word();
        mended();
        mendedYear();
        DUE.end();
    }

    private static void group() {
        NoDayForIt x = new NoDayForIt();
        for (int g = 0; g < 9; g++) {
            DUE.is("19: group", x.group(), g);
        }
        DUE.is("19: full", x.group(), -3);
        DUE.is("19: nine", x.count(2), 9);
        DUE.is("19: wishes are 0", x.wish(8, 5, 0), 0);
    }

    private static void wish() {
        NoDayForIt x = new NoDayForIt();
        DUE.is("20: no group", x.wish(0, 0, 0), -100);
        x.group();
        DUE.is("20: was", x.wish(0, 5, -9), 0);
        DUE.is("20: was", x.wish(0, 5, 9), -9);
        DUE.is("20: v 10", x.wish(0, 5, 10), -100);
        DUE.is("20: v -10", x.wish(0, 5, -10), -100);
        DUE.is("20: matter 6", x.wish(0, 6, 0), -100);
        DUE.is("20: matter -1", x.wish(0, -1, 0), -100);
        DUE.is("20: group -1", x.wish(-1, 0, 0), -100);
        DUE.is("20: group 1", x.wish(1, 0, 0), -100);
        DUE.is("20: nothing changed", x.wish(0, 5, 0), 9);
        DUE.is("20: the others", x.wish(0, 4, 0), 0);
    }

    private static void passes() {
        DUE.is("21: without groups", new NoDayForIt().passes(1), 0);
        NoDayForIt x = Due.wishing(new int[] {3, -4, 0}, new int[] {1, 2, 0}, new int[] {-9, 0, 0});
        DUE.is("21: two to one", x.passes(1), 1);
        DUE.is("21: one to one", x.passes(2), 0);
        DUE.is("21: one to two", x.passes(3), 0);
        DUE.is("21: none to none", x.passes(4), 0);
        DUE.is("21: what nobody wishes", x.passes(5), 1);
        DUE.is("21: all", x.passes(63), 0);
        DUE.is("21: 0", x.passes(0), -1);
        DUE.is("21: 64", x.passes(64), -1);
        DUE.is("21: -1", x.passes(-1), -1);
    }

    private static void ride() {
        NoDayForIt x = Due.wishing(new int[] {1, -3, 5, 9, 0, -1}, new int[] {0, -3, -9, 9, 0, 0});
        DUE.is("22: by itself", x.ride(0, 0), 0);
        DUE.is("22: by itself", x.ride(0, 1), 0);
        DUE.is("22: with one", x.ride(1, 0), 1);
        DUE.is("22: with one", x.ride(1, 1), 8);
        DUE.is("22: nobody wishes it", x.ride(4, 0), 1);
        DUE.is("22: the least of several", x.ride(4, 1), 1);
        DUE.is("22: matter 6", x.ride(6, 0), -1);
        DUE.is("22: matter -1", x.ride(-1, 0), -1);
        DUE.is("22: what 2", x.ride(0, 2), -1);
        DUE.is("22: what -1", x.ride(0, -1), -1);
        DUE.is("22: none", new NoDayForIt().ride(0, 0), -9);
        DUE.is("22: none", new NoDayForIt().ride(0, 1), -9);
        NoDayForIt y = Due.wishing(new int[] {-9, 1, 3, 3, 3, 3});
        DUE.is("22: four of five", y.ride(0, 0), 4);
        DUE.is("22: the least of five sets", y.ride(0, 1), 30);
    }

    private static void tears() {
        NoDayForIt x = Due.wishing(new int[] {9, -1, -1, 0}, new int[] {9, -1, 4, 0});
        DUE.is("23: each passes", x.tears(1), 0);
        DUE.is("23: three do not", x.tears(15), 3);
        DUE.is("23: one does not", x.tears(3), 1);
        DUE.is("23: what does not pass", x.tears(6), 0);
        DUE.is("23: 0", x.tears(0), -1);
        DUE.is("23: 64", x.tears(64), -1);
    }

    private static void word() {
        NoDayForIt x = new NoDayForIt();
        DUE.is("24: nothing ahead", x.word(0, 3, 3, 3), 0);
        DUE.is("24: was", x.word(0, 2, 3, 59), 3);
        DUE.is("24: was", x.word(0, 1, 1, 59), 2);
        DUE.is("24: was", x.word(0, 0, 1, 59), 1);
        DUE.is("24: was", x.word(0, 0, 0, 0), 0);
        DUE.is("24: word 5", x.word(5, 0, 0, 0), -1);
        DUE.is("24: word -1", x.word(-1, 0, 0, 0), -1);
        DUE.is("24: what 4", x.word(4, 4, 0, 0), -1);
        DUE.is("24: what -1", x.word(4, -1, 0, 0), -1);
        DUE.is("24: of 2, what 0", x.word(4, 0, 2, 0), -1);
        DUE.is("24: of 2, what 1", x.word(4, 1, 2, 0), -1);
        DUE.is("24: of 4, what 2", x.word(4, 2, 4, 0), -1);
        DUE.is("24: of 4, what 3", x.word(4, 3, 4, 0), -1);
        DUE.is("24: of -1", x.word(4, 2, -1, 0), -1);
        DUE.is("24: by 60", x.word(4, 2, 0, 60), -1);
        DUE.is("24: by -1", x.word(4, 2, 0, -1), -1);
        DUE.is("24: no kind 4", x.word(4, 3, 0, 4), -1);
        DUE.is("24: nothing changed", x.word(4, 0, 0, 0), 0);
    }

    private static void mendedIs(NoDayForIt x, int size, int set, int sets) {
        DUE.is("25: how many", x.mended(0), size);
        DUE.is("25: the set", x.mended(1), set);
        DUE.is("25: how many sets", x.mended(2), sets);
    }

    private static void mended() {
        NoDayForIt x = new NoDayForIt();
        mendedIs(x, -9, -9, -9);
        DUE.is("25: what 3", x.mended(3), -1);
        DUE.is("25: what -1", x.mended(-1), -1);
        Due.law(x, "year 10;bill;step free after 0;bill;step dark after 0;");
        mendedIs(x, 0, 0, 1);
        x.word(0, 3, 0, 3);
        mendedIs(x, 0, 0, 1);
        Due.law(x, "year 10;bill;bill;step dark after 0;");
        mendedIs(x, 0, 0, 1);
        Due.law(x, "year 10;bill;step free after 0;bill;");
        mendedIs(x, -9, -9, -9);
        // BILL 0 wants its second step nearer and BILL 1 must not get a dark day for its first.
        Due.law(x, "year 10;bill;step free after 0;step free after 12;"
            + "bill;step dark after 0;step free after 0;");
        x.word(1, 2, 1, 3);
        x.word(3, 2, 1, 5);
        x.word(4, 2, 0, 59);
        mendedIs(x, 1, 2, 2);
        x.word(1, 2, 1, 2);
        mendedIs(x, 1, 8, 1);
        x.word(3, 2, 1, 1);
        mendedIs(x, 2, 10, 1);
        x.word(2, 2, 1, 1);
        mendedIs(x, 2, 6, 2);
        x.word(1, 1, 0, 3);
        mendedIs(x, -9, -9, -9);
        // Less than 0 it never is.
        Due.law(x, "year 10;bill;step free after 0;step free after 12;bill;step free after 0;"
            + "step free after 3;step free after 9;");
        x.word(1, 2, 1, 59);
        mendedIs(x, -9, -9, -9);
        // No such step.
        Due.law(x, "year 10;bill;step free after 0;step dark after 0;bill;step dark after 0;");
        x.word(1, 3, 1, 0);
        x.word(2, 3, 2, 0);
        x.word(3, 3, 3, 0);
        mendedIs(x, 1, 2, 1);
        DUE.is("25: the law stays", x.step(0, 1, 0), 8);
        mendedByAll();
        mendedByKinds();
    }

    private static void mendedByAll() {
        NoDayForIt x = Due.withLaw("year 10;bill;step free after 0;step free after 13;"
            + "bill;step dark after 0;");
        for (int w = 0; w < 5; w++) {
            x.word(w, 2, 1, 1);
        }
        mendedIs(x, 4, 15, 5);
        x.word(0, 2, 1, 0);
        mendedIs(x, 4, 30, 1);
        Due.law(x, "year 10;bill;step free after 0;step free after 14;bill;step dark after 0;");
        x.word(0, 2, 1, 1);
        mendedIs(x, 5, 31, 1);
        x.word(4, 2, 1, 0);
        mendedIs(x, -9, -9, -9);
    }

    private static void mendedByKinds() {
        NoDayForIt x = Due.withLaw("year 10;days 4 4 holy;bill;step dark after 0;"
            + "bill;step dark after 0;step free after 1 market;");
        x.word(0, 3, 0, 2);
        mendedIs(x, 1, 1, 1);
        x.word(0, 3, 0, 1);
        mendedIs(x, -9, -9, -9);
        Due.law(x, "year 10;days 4 4 holy;days 8 8 market;bill;step dark after 0;"
            + "bill;step dark after 0;step free after 1 market within 2;");
        x.word(0, 3, 0, 2);
        mendedIs(x, 1, 1, 1);
        Due.law(x, "year 10;days 4 4 holy;days 8 8 market;bill;step dark after 0;"
            + "bill;step dark after 0;step free after 1 market within 5;");
        mendedIs(x, -9, -9, -9);
    }

    private static void mendedYear() {
        NoDayForIt x = Due.withLaw("year 10;bill;step free after 0 sign;step free after 9;"
            + "bill;step holy after 0;");
        x.person(2, 3);
        x.act(3, 0, 9);
        x.act(5, 0, 0);
        x.act(2, 0, 0);
        DUE.is("25: not by now", x.soon(0, -1), -9);
        DUE.is("25: by now", x.soon(1, -1), 9);
        mendedIs(x, 0, 0, 1);
    }
}
