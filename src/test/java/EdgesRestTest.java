/**
 * The edges that "4 MATTERS, WORDS, KINDS and IMAGES" names, sentence by sentence in the document's
 * order (promises 19 to 30). Each sentence stands above its test.
 */
public final class EdgesRestTest {
    private static final Due DUE = new Due("EdgesRestTest");
    private static final int CALL = 0, FORBID = 1, WATCH = 2, HOLY = 3, FORCE = 4, WAIT = 5;
    private static final String STEP = "step free after 0;";

    public static void main(String[] args) {
        groups();
        wishesBecome();
        passes();
        rides();
        ridesLeastSet();
        tears();
        wordsAtFirst();
        wordsOfTimes();
        wordsOfAfter();
        wordsOfKinds();
        mendedFewest();
        mendedFromDayZero();
        mendedAmongOthers();
        mendedWithoutSteps();
        priceOfAct();
        priceOfStep();
        priceOfForbidWatch();
        priceOfHoly();
        priceOfJoin();
        priceOfForce();
        traces();
        imagesKeepAll();
        imagesKeepNothingElse();
        imagesOfPeople();
        imagesAnew();
        lawEndsImages();
        counts();
        DUE.end();
    }

    private static int[] wish(int... wishes) {
        return wishes;
    }

    // "GROUPS 0 .. (9 at most, as they come) have a WISH for each (-9 .. 9)"
    private static void groups() {
        NoDayForIt x = new NoDayForIt();
        DUE.is("no group yet", x.wish(0, 0, 0), -100);
        for (int g = 0; g < 9; g++) {
            DUE.is("none yet " + g, x.wish(g, 0, 0), -100);
            DUE.is("as they come " + g, x.group(), g);
            DUE.is("so many " + g, x.count(2), g + 1);
            for (int m = 0; m < 6; m++) {
                DUE.is("0 at first " + g + " " + m, x.wish(g, m, 0), 0);
            }
        }
        DUE.is("no tenth", x.group(), -3);
        DUE.is("nine", x.count(2), 9);
    }

    // "A WISH of a GROUP becomes v: what it was. -100: BAD."
    private static void wishesBecome() {
        NoDayForIt x = Due.wishing(wish(), wish());
        int was = 0;
        for (int v = -9; v <= 9; v++) {
            DUE.is("was, ahead of " + v, x.wish(1, 5, v), was);
            was = v;
            DUE.is("too much", x.wish(1, 5, v < 0 ? -10 : 10), -100);
        }
        DUE.is("-1 is no refusal", x.wish(1, 5, -1), 9);
        DUE.is("-1 was", x.wish(1, 5, 0), -1);
        DUE.is("the other group's", x.wish(0, 5, 0), 0);
        DUE.is("the other matter's", x.wish(1, 4, 0), 0);
    }

    // "PASSES, if more GROUPS wish it (.. above 0) than do not (below 0)"
    private static void passes() {
        DUE.is("no groups", new NoDayForIt().passes(63), 0);
        DUE.is("one of 0", Due.wishing(wish(0)).passes(1), 0);
        DUE.is("one above", Due.wishing(wish(1)).passes(1), 1);
        DUE.is("one below", Due.wishing(wish(-1)).passes(1), 0);
        DUE.is("one to one", Due.wishing(wish(1), wish(-1)).passes(1), 0);
        DUE.is("so many, not so much", Due.wishing(wish(1), wish(1), wish(-9)).passes(1), 1);
        DUE.is("0 is neither", Due.wishing(wish(1), wish(0), wish(0)).passes(1), 1);
        DUE.is("together 0", Due.wishing(wish(9, -9)).passes(3), 0);
        DUE.is("together 1", Due.wishing(wish(9, -8)).passes(3), 1);
        DUE.is("together -1", Due.wishing(wish(8, -9)).passes(3), 0);
        DUE.is("54", Due.wishing(wish(9, 9, 9, 9, 9, 9)).passes(63), 1);
        DUE.is("-54", Due.wishing(wish(-9, -9, -9, -9, -9, -9)).passes(63), 0);
        NoDayForIt x = Due.wishing(wish(0, 1), wish(0, 1), wish(0, 1), wish(0, 1), wish(0, -1),
            wish(0, -1), wish(0, -1), wish(0, -1), wish(5));
        DUE.is("four to four", x.passes(2), 0);
        DUE.is("and the ninth", x.passes(3), 1);
        for (int m = 0; m < 6; m++) {
            int[] own = new int[6];
            own[m] = 1;
            NoDayForIt y = Due.wishing(own);
            for (int set = 1; set <= 63; set++) {
                DUE.is("set " + set + " with " + m, y.passes(set), set >> m & 1);
            }
        }
    }

    // "RIDE of a MATTER: the fewest others with which joined it PASSES, ..; NONE"
    private static void rides() {
        for (int m = 0; m < 6; m++) {
            int[] own = {-1, -1, -1, -1, -1, -1};
            own[m] = 5;
            NoDayForIt x = Due.wishing(own);
            DUE.is("no other " + m, x.ride(m, 0), 0);
            DUE.is("no set " + m, x.ride(m, 1), 0);
            for (int o = 0; o < 6; o++) {
                if (o != m) {
                    DUE.is("one other " + o, x.ride(o, 0), 1);
                    DUE.is("that one " + o, x.ride(o, 1), 1 << m);
                }
            }
        }
        NoDayForIt all = Due.wishing(wish(-9, 2, 2, 2, 2, 2), wish(-9, 2, 2, 2, 2, 2));
        DUE.is("all the others", all.ride(0, 0), 5);
        DUE.is("their set", all.ride(0, 1), 62);
        NoDayForIt none = Due.wishing(wish(-9, 1, 2, 2, 2, 2));
        DUE.is("not by all", none.ride(0, 0), -9);
        DUE.is("no set", none.ride(0, 1), -9);
        DUE.is("without groups", new NoDayForIt().ride(5, 0), -9);
    }

    // "of several the least set"
    private static void ridesLeastSet() {
        NoDayForIt x = Due.wishing(wish(3, 3, 3, -5, 3, 3));
        DUE.is("two others", x.ride(3, 0), 2);
        DUE.is("0 and 1", x.ride(3, 1), 3);
        NoDayForIt y = Due.wishing(wish(1, 1, -5, 1, 5, 2));
        DUE.is("two others", y.ride(2, 0), 2);
        DUE.is("fewer, though not the least", y.ride(2, 1), 17);
        NoDayForIt fewer = Due.wishing(wish(3, 3, -5, 0, 0, 6));
        DUE.is("one other", fewer.ride(2, 0), 1);
        DUE.is("5, though 0 and 1 are less as a set", fewer.ride(2, 1), 32);
        NoDayForIt z = Due.wishing(wish(0, -1, 0, 0, 0, 2));
        DUE.is("only one", z.ride(1, 1), 32);
        DUE.is("5 by itself", z.ride(5, 1), 0);
        DUE.is("of no wish, with 5", z.ride(0, 1), 32);
    }

    // "TEARS: how many MATTERS of a set, each by itself, do not PASS, though the set does (0, if it
    // does not)"
    private static void tears() {
        NoDayForIt x = Due.wishing(wish(9, -1, -1, -1, -1, -1), wish(-1, 9, -1, -1, -1, -1),
            wish(-1, -1, 9, -1, -1, -1));
        DUE.is("all six", x.tears(63), 6);
        DUE.is("three", x.tears(7), 3);
        DUE.is("two", x.tears(3), 2);
        DUE.is("it does not pass itself", x.tears(1), 0);
        DUE.is("does not pass", x.tears(56), 0);
        NoDayForIt y = Due.wishing(wish(9, 0, -3, 1, 0, 0));
        DUE.is("it passes by itself", y.tears(1), 0);
        DUE.is("one of nobody's wish", y.tears(3), 1);
        DUE.is("one against, one of nobody's", y.tears(7), 2);
        DUE.is("all", y.tears(63), 4);
        DUE.is("both pass", y.tears(9), 0);
        DUE.is("nobody wishes any", y.tears(50), 0);
    }

    private static void mended(String told, NoDayForIt x, int size, int set, int sets) {
        DUE.is(told + ": how many words", x.mended(0), size);
        DUE.is(told + ": the set", x.mended(1), set);
        DUE.is(told + ": how many sets", x.mended(2), sets);
    }

    private static NoDayForIt law(String text) {
        return Due.withLaw("year 10;" + text);
    }

    // "WHAT 0 nothing (at first)"
    private static void wordsAtFirst() {
        NoDayForIt x = law("bill;step dark after 0;bill;step holy after 0;");
        mended("all words are nothing", x, -9, -9, -9);
        for (int w = 0; w < 5; w++) {
            DUE.is("nothing at first " + w, x.word(w, 0, 1, 59), 0);
        }
        mended("told to be nothing", x, -9, -9, -9);
        for (int w = 0; w < 5; w++) {
            x.word(w, 3, 0, 0);
            DUE.is("was " + w, x.word(w, 2, 3, 59), 3);
            DUE.is("and was " + w, x.word(w, 1, 1, 59), 2);
            DUE.is("and was then " + w, x.word(w, 0, 1, 59), 1);
        }
        NoDayForIt y = law("bill;step dark after 0;bill;step holy after 0;");
        y.word(4, 3, 0, 3);
        mended("no day is dark", y, -9, -9, -9);
        y.word(4, 3, 0, 0);
        mended("that word lets both through", y, -9, -9, -9);
    }

    // "1: V (OF 0), or S (1), of all PEOPLE's TIMES as they are told is BY less (0 at least)"
    private static void wordsOfTimes() {
        NoDayForIt x = law("bill;" + "step free after 0 voice sign;bill;step dark after 0;");
        x.person(1, 3);
        x.person(2, 3);
        for (int w = 0; w < 5; w++) {
            x.word(w, 1, w % 2, w < 2 ? 59 : w);
        }
        mended("none is needed", x, 0, 0, 1);
        NoDayForIt y = law("bill;" + "step free after 0 voice sign;bill;step free after 0 voice;");
        y.person(1, 3);
        y.word(0, 1, 0, 0);
        y.word(1, 1, 0, 3);
        y.word(2, 1, 1, 59);
        mended("none helps", y, -9, -9, -9);
    }

    // "2: STEP OF of both BILLS wants BY less after (0 at least)"
    private static void wordsOfAfter() {
        for (int by = 0; by <= 59; by++) {
            NoDayForIt x = law("bill;step free after 0;step free after 59;bill;step dark after 0;");
            x.word(2, 2, 1, by);
            boolean isWell = by >= 50;
            mended("59 less " + by, x, isWell ? 1 : -9, isWell ? 4 : -9, isWell ? 1 : -9);
            x.word(2, 2, 0, by);
            mended("of the other step " + by, x, -9, -9, -9);
            x.word(2, 2, 3, by);
            mended("of no step " + by, x, -9, -9, -9);
        }
        NoDayForIt y = law("bill;step free after 0;step free after 12;"
            + "bill;step free after 0;step free after 11;");
        y.word(0, 2, 1, 3);
        mended("of both bills", y, -9, -9, -9);
        y = law("bill;step free after 0;step free after 11;"
            + "bill;step free after 0;step free after 12;");
        y.word(0, 2, 1, 1);
        mended("not enough", y, -9, -9, -9);
        y.word(0, 2, 1, 2);
        mended("just enough for the good one", y, 1, 1, 1);
        y.word(0, 2, 1, 3);
        mended("enough for the bad one", y, -9, -9, -9);
        DUE.is("the law stays", y.step(0, 1, 1), 11);
        for (int k = 0; k < 4; k++) {
            NoDayForIt z = law("bill;" + "step free after 0;".repeat(Math.max(1, k))
                + "step free after " + (k == 0 ? 0 : 10) + ";bill;step dark after 0;");
            z.word(4, 2, k, 1);
            mended("step " + k, z, k == 0 ? 0 : 1, k == 0 ? 0 : 16, 1);
        }
        NoDayForIt w = law("days 4 4 market;bill;step free after 0;step free after 2 market;"
            + "bill;step dark after 0;");
        w.word(1, 2, 1, 1);
        mended("a market less", w, 1, 2, 1);
    }

    // "3: STEP OF of both BILLS may be on KIND BY, too"
    private static void wordsOfKinds() {
        String[] kinds = {"free", "market", "holy", "dark"};
        for (int kind = 1; kind < 4; kind++) {
            for (int by = 0; by < 4; by++) {
                NoDayForIt x = law("days 0 9 " + kinds[kind] + ";bill;step free after 0;"
                    + "bill;step free after 0;step free after 10;");
                x.word(3, 3, 0, by);
                boolean isWell = by == kind;
                mended("kind " + kind + " by " + by, x, isWell ? 1 : -9, isWell ? 8 : -9,
                    isWell ? 1 : -9);
            }
        }
        for (int k = 0; k < 4; k++) {
            NoDayForIt x = law("bill;" + STEP.repeat(k) + "step dark after 0;bill;"
                + "step dark after 0;step free after 10;");
            for (int of = 0; of < 4; of++) {
                x.word(0, 3, of, 0);
                boolean isWell = of == k;
                mended("step " + k + " of " + of, x, isWell ? 1 : -9, isWell ? 1 : -9,
                    isWell ? 1 : -9);
            }
            DUE.is("the law stays " + k, x.step(0, k, 0), 8);
        }
        NoDayForIt y = law("bill;step dark after 0;bill;step holy after 0;");
        y.word(0, 3, 0, 0);
        mended("of both bills", y, -9, -9, -9);
        // The market day 0 is still well for the first step of bill 1.
        NoDayForIt w = law("days 0 0 market;bill;step dark after 0;"
            + "bill;step market after 0;step market after 0;");
        w.word(0, 3, 0, 0);
        mended("that KIND, too, and those told", w, -9, -9, -9);
        NoDayForIt z = law("bill;step free after 0;bill;step dark after 0;");
        z.word(0, 3, 0, 0);
        mended("none is needed, but it would let the bad one through", z, 0, 0, 1);
    }

    // "MENDED: the fewest WORDS .., of several the least set; how many sets of so few do; NONE"
    private static void mendedFewest() {
        NoDayForIt x = law("bill;step free after 0;step free after 14;bill;step dark after 0;");
        for (int w = 0; w < 5; w++) {
            x.word(w, 2, 1, 5);
        }
        mended("one of five", x, 1, 1, 5);
        for (int w = 0; w < 5; w++) {
            x.word(w, 2, 1, 3);
        }
        mended("two of five", x, 2, 3, 10);
        for (int w = 0; w < 5; w++) {
            x.word(w, 2, 1, 2);
        }
        mended("three of five", x, 3, 7, 10);
        for (int w = 0; w < 5; w++) {
            x.word(w, 2, 1, w == 0 ? 1 : 2);
        }
        mended("three of the last four, or with the first", x, 3, 7, 10);
        for (int w = 0; w < 5; w++) {
            x.word(w, 2, 1, 1);
        }
        mended("all five", x, 5, 31, 1);
        x.word(0, 2, 1, 0);
        mended("not by all", x, -9, -9, -9);
        x.word(0, 2, 1, 5);
        mended("fewer, though more sets of more do", x, 1, 1, 1);
        x.word(4, 2, 1, 59);
        mended("the first or the last", x, 1, 1, 2);
        x.word(0, 0, 0, 0);
        mended("the last", x, 1, 16, 1);
    }

    // "in THE YEAR as told, from DAY 0 on, nothing done, .. (all PEOPLE's TIMES as told ..)"
    private static void mendedFromDayZero() {
        String text = "bill;step free after 0 voice;step free after 9 sign;"
            + "bill;step holy after 0;step free after 0;";
        NoDayForIt x = law(text);
        x.person(1, 3);
        x.person(2, 3);
        mended("at first", x, 0, 0, 1);
        x.act(HOLY, 1, 8);
        DUE.is("bill 1 is sure by now", x.soon(1, -1), 9);
        mended("a day made holy", x, 0, 0, 1);
        x.act(WATCH, 1, 0);
        mended("watched", x, 0, 0, 1);
        x.act(WAIT, 0, 0);
        DUE.is("bill 0 is not by now", x.soon(0, -1), -9);
        mended("a day later", x, 0, 0, 1);
        x.act(CALL, 0, 0);
        x.act(FORBID, 0, 0);
        mended("times used", x, 0, 0, 1);
        x.act(FORCE, 0, 0);
        mended("void", x, 0, 0, 1);
        Due.waitTo(x, 8);
        x.act(CALL, 0, 1);
        Due.waitTo(x, 9);
        x.act(CALL, 0, 1);
        DUE.is("carried", x.now(5), 2);
        mended("bill 1 is carried", x, 0, 0, 1);
    }

    /** MENDED behind all else that is asked of the days ahead, and these behind MENDED. */
    private static void mendedAmongOthers() {
        NoDayForIt x = law("bill;step free after 0;bill;step dark after 0;");
        x.word(0, 3, 0, 3);
        for (int i = 0; i < 2; i++) {
            DUE.is("one against", x.against(1), 1);
            mended("behind against", x, 0, 0, 1);
            DUE.is("none against", x.against(0), 0);
            DUE.is("soon", x.soon(0, -1), 0);
            mended("behind soon", x, 0, 0, 1);
            DUE.is("none of the other", x.soon(1, -1), -9);
            DUE.is("may not", x.may(1, 0, -9, 0), 0);
        }
    }

    // "a BILL without STEPS is SURE on DAY 0"
    private static void mendedWithoutSteps() {
        mended("a new object", new NoDayForIt(), -9, -9, -9);
        mended("the good one", law("bill;bill;step dark after 0;"), 0, 0, 1);
        mended("the bad one", law("bill;step free after 0;bill;"), -9, -9, -9);
        mended("both", law("bill;bill;"), -9, -9, -9);
        NoDayForIt x = law("bill;bill;step dark after 0;");
        x.word(0, 3, 0, 0);
        mended("by no word", x, 0, 0, 1);
    }

    private static void price(String told, NoDayForIt x, int kind, int d, int price) {
        DUE.is("price " + told, x.price(kind, d), price);
    }

    // "ACT its KIND and 1 (1)"
    private static void priceOfAct() {
        NoDayForIt x = law("days 1 1 market;days 2 2 holy;days 9 9 dark;");
        price("of free", x, 0, 0, 1);
        price("of market", x, 0, 1, 2);
        price("of holy", x, 0, 2, 3);
        price("of dark", x, 0, 9, 4);
        DUE.is("beyond", x.price(0, 10), -1);
        x.person(2, 3);
        x.act(HOLY, 0, 9);
        price("of dark made holy", x, 0, 9, 3);
    }

    // "STEP up, and how many STEPS of both BILLS may be on such a KIND (10)"
    private static void priceOfStep() {
        NoDayForIt x = law("days 1 1 market;days 2 2 holy;days 9 9 dark;bill;step free after 0;"
            + "step free market after 9;step free market holy after 9;"
            + "step free market holy dark after 9;bill;step dark after 0;step holy dark after 9;"
            + "step market holy dark after 9;step free market holy dark after 9;");
        price("free: 5 of 8", x, 1, 0, 6);
        price("market: 5 of 8", x, 1, 1, 7);
        price("holy: 5 of 8", x, 1, 2, 8);
        price("dark: 5 of 8", x, 1, 9, 9);
        String any = "step free after 0;".repeat(4);
        price("8 of 8", law("bill;" + any + "bill;" + any), 1, 0, 9);
        price("0 of 8", law("days 0 0 dark;bill;" + any + "bill;" + any), 1, 0, 4);
        price("no steps", law(""), 1, 0, 1);
        NoDayForIt y = law("days 5 5 dark;bill;step dark after 0;bill;step holy after 0;"
            + "step holy after 0;");
        y.person(2, 1);
        price("as told", y, 1, 5, 5);
        y.act(HOLY, 0, 5);
        price("by now", y, 1, 5, 5);
    }

    // "FORBID three times up (100). WATCH up, and DAYS behind it in THE YEAR (1000)."
    private static void priceOfForbidWatch() {
        for (int n = 10; n <= 60; n += 25) {
            NoDayForIt x = Due.withLaw("year " + n + ";days 1 1 dark;bill;step free after 0;");
            price("forbid of free", x, 2, 0, 3);
            price("forbid of dark", x, 2, 1, 12);
            price("watch on the first of " + n, x, 3, 0, 3 + n - 1);
            price("watch on the second of " + n, x, 3, 1, 12 + n - 2);
            price("watch on the last but one of " + n, x, 3, n - 2, 4);
            price("watch on the last of " + n, x, 3, n - 1, 3);
        }
    }

    // "HOLY up, and 5, if it was made holy by an ACT (10000)"
    private static void priceOfHoly() {
        NoDayForIt x = law("days 3 3 holy;days 4 4 dark;");
        x.person(2, 3);
        price("free", x, 4, 0, 1);
        price("holy as told", x, 4, 3, 3);
        price("dark", x, 4, 4, 4);
        x.act(HOLY, 0, 3);
        price("a slip makes none", x, 4, 3, 3);
        x.keep(0);
        x.act(HOLY, 0, 4);
        x.act(HOLY, 0, 9);
        price("made holy", x, 4, 4, 8);
        price("made holy, the last", x, 4, 9, 8);
        x.back(0);
        price("not any more", x, 4, 4, 4);
    }

    // "JOIN up times how many BILLS have STEPS (100000)"
    private static void priceOfJoin() {
        price("no bill", law(""), 5, 0, 0);
        price("bills without steps", law("bill;bill;"), 5, 0, 0);
        price("the first", law("bill;" + STEP + "bill;"), 5, 0, 2);
        price("the second", law("bill;bill;" + STEP), 5, 0, 2);
        price("both", law("bill;" + STEP + "bill;" + STEP), 5, 0, 6);
        price("both, on none's kind", law("days 0 0 dark;bill;" + STEP + "bill;" + STEP), 5, 0, 8);
        String any = "step dark after 0;".repeat(4);
        price("the most", law("days 9 9 dark;bill;" + any + "bill;" + any), 5, 9, 24);
    }

    // "FORCE half of up, rounded down (1000000)"
    private static void priceOfForce() {
        NoDayForIt x = law("days 1 1 market;days 2 2 holy;days 3 3 dark;bill;step free after 0;");
        price("half of 1", x, 6, 0, 0);
        price("half of 2", x, 6, 1, 1);
        price("half of 3", x, 6, 2, 1);
        price("half of 4", x, 6, 3, 2);
    }

    // "(numbers in brackets are added to THE TRACE, 0 at first, as often as price() asks that body)"
    private static void traces() {
        long[] adds = {1, 11, 101, 1101, 10001, 100011, 1000001};
        for (int kind = 0; kind < 7; kind++) {
            NoDayForIt x = law("bill;" + STEP);
            DUE.is("0 at first", x.trace(), 0);
            for (int i = 1; i <= 200; i++) {
                x.price(kind, i % 10);
                DUE.is("trace of " + i + " times " + kind, x.trace(), i * adds[kind]);
            }
            x.price(kind, 10);
            x.price(-1, 0);
            x.price(7, 0);
            x.keep(0);
            x.back(0);
            DUE.is("what is refused adds nothing, " + kind, x.trace(), 200 * adds[kind]);
            Due.law(x, "bill;");
            DUE.is("a law takes nothing off, " + kind, x.trace(), 200 * adds[kind]);
        }
    }

    // "IMAGES 0, 1 keep all that ACTS changed (TODAY, STEPS done, TIMES left, DAYS made holy, what
    // is WATCHED, CARRIED, VOID, SLIPS, the ACT ahead)"
    private static void imagesKeepAll() {
        String text = "bill;step free after 0 voice;step free after 0 within 2 voice;"
            + "bill;step free after 0 voice;";
        NoDayForIt x = law(text);
        x.person(1, 3);
        x.person(2, 3);
        DUE.is("of nothing done", x.keep(0), 0);
        x.act(FORCE, 0, 0);
        x.act(CALL, 0, 0);
        x.act(CALL, 0, 0);
        x.act(HOLY, 1, 7);
        x.act(CALL, 0, 1);
        x.act(FORBID, 0, 0);
        x.act(FORCE, 0, 0);
        x.act(WAIT, 0, 0);
        x.act(WATCH, 1, 0);
        DUE.is("of all of that", x.keep(1), 9);
        for (int i = 0; i < 2; i++) {
            DUE.is("back to nothing", x.back(0), 0);
            int[] first = {0, 0, 0, -9, 0, 0, 0};
            int[] counts = {10, 2, 0, 0, 3, 3, 0};
            answers("nothing " + i, x, first, counts);
            DUE.is("no steps", x.bill(0, 1) + x.bill(1, 1), 0);
            DUE.is("no days", x.bill(0, 2) + x.bill(1, 2), -18);
            DUE.is("not holy", x.day(7), 0);
            DUE.is("no act ahead", x.act(FORBID, 0, 0), 0);
            DUE.is("back to all of that", x.back(1), 9);
            int[] then = {1, 9, 1, 0, 1, 1, 2};
            int[] left = {10, 2, 0, 0, 2, 1, 1};
            answers("all of that " + i, x, then, left);
            DUE.is("steps", x.bill(0, 1), 2);
            DUE.is("the other's", x.bill(1, 1), 1);
            DUE.is("day", x.bill(0, 2), 0);
            DUE.is("holy", x.day(7), 2);
            DUE.is("it goes on", x.act(WAIT, 0, 0), 1);
            DUE.is("from there", x.now(0), 2);
        }
    }

    private static void answers(String told, NoDayForIt x, int[] now, int[] count) {
        for (int i = 0; i < 7; i++) {
            DUE.is(told + ": now " + i, x.now(i), now[i]);
            DUE.is(told + ": count " + i, x.count(i), count[i]);
        }
    }

    // "nothing else"
    private static void imagesKeepNothingElse() {
        NoDayForIt x = law("bill;" + STEP);
        x.person(0, 0);
        x.keep(0);
        x.group();
        x.wish(0, 3, 7);
        x.word(2, 3, 1, 1);
        x.price(1, 0);
        x.person(1, 2);
        x.keep(1);
        Due.type(x, "bill;bil");
        x.back(0);
        DUE.is("groups", x.count(2), 1);
        DUE.is("wishes", x.wish(0, 3, 0), 7);
        DUE.is("words", x.word(2, 0, 0, 0), 3);
        DUE.is("trace", x.trace(), 11);
        DUE.is("people", x.count(1), 2);
        DUE.is("text", x.count(3), 8);
        DUE.is("the other image", x.back(1), 0);
        DUE.is("the law", x.bill(0, 0), 1);
    }

    // "(People who came since have their TIMES as told then.)"
    private static void imagesOfPeople() {
        NoDayForIt x = law("bill;" + "step free after 0 voice;");
        x.person(1, 1);
        x.act(CALL, 0, 0);
        x.act(FORBID, 0, 0);
        x.keep(0);
        x.person(1, 3);
        x.person(2, 2);
        for (int i = 0; i < 2; i++) {
            x.act(CALL, 0, 0);
            x.act(FORBID, 1, 0);
        }
        x.keep(1);
        x.person(0, 3);
        DUE.is("as told then", x.back(0), 2);
        int[] left = {0, 3, 2, 3};
        for (int p = 0; p < 4; p++) {
            DUE.is("back 0, left of " + p, x.who(p, 2), left[p]);
        }
        DUE.is("those who were there have what was left", x.back(1), 6);
        left[1] = 1;
        for (int p = 0; p < 4; p++) {
            DUE.is("back 1, left of " + p, x.who(p, 2), left[p]);
        }
        DUE.is("voices", x.count(4), 1);
        x.back(0);
        x.keep(1);
        x.back(1);
        DUE.is("kept anew with all of them", x.who(1, 2), 3);
        NoDayForIt y = law("");
        y.keep(1);
        for (int p = 0; p < 8; p++) {
            y.person(2 - p % 3, p % 3);
        }
        y.act(WATCH, 2, 0);
        y.act(WATCH, 5, 0);
        y.back(1);
        for (int p = 0; p < 8; p++) {
            DUE.is("all came since " + p, y.who(p, 2), p % 3);
        }
    }

    // "An IMAGE is kept: how many ACTS there were.", "STATE: none was kept."
    private static void imagesAnew() {
        NoDayForIt x = law("");
        x.person(0, 0);
        DUE.is("none was kept", x.back(1), -2);
        DUE.is("none at all", x.back(0), -2);
        DUE.is("0 acts", x.keep(1), 0);
        DUE.is("the other was not", x.back(0), -2);
        x.act(WAIT, 0, 0);
        x.act(FORCE, 0, 0);
        DUE.is("a slip is an act", x.keep(0), 2);
        DUE.is("back", x.back(1), 0);
        DUE.is("and forth", x.back(0), 2);
        DUE.is("kept over", x.keep(1), 2);
        x.act(WAIT, 0, 0);
        DUE.is("what was kept over", x.back(1), 2);
        DUE.is("today", x.now(0), 1);
    }

    // "(A LAW read anew: all that is as at first, TIMES as told; IMAGES are gone.)"
    private static void lawEndsImages() {
        NoDayForIt x = law("bill;step free after 0 voice;");
        x.person(1, 2);
        x.act(CALL, 0, 0);
        x.act(FORBID, 0, 0);
        x.keep(0);
        x.keep(1);
        DUE.is("a fault", Due.law(x, "bill"), -14);
        DUE.is("ends no image", x.back(0), 2);
        DUE.is("nor times", x.who(0, 2), 1);
        DUE.is("a law", Due.law(x, ""), 0);
        DUE.is("image 0 is gone", x.back(0), -2);
        DUE.is("image 1 is gone", x.back(1), -2);
        DUE.is("times as told", x.who(0, 2), 2);
        answers("as at first", x, new int[] {0, 0, 0, -9, 0, 0, 0},
            new int[] {30, 1, 0, 0, 2, 0, 0});
        DUE.is("kept anew", x.keep(0), 0);
        DUE.is("only that one", x.back(1), -2);
    }

    // "0 DAYS, 1 PEOPLE, 2 GROUPS, 3 bytes of THE TEXT, 4 voices left of all, 5 signs left, 6 DAYS
    // made holy"
    private static void counts() {
        int[] first = {30, 0, 0, 0, 0, 0, 0};
        int[] most = {60, 8, 9, 400, 6, 6, 0};
        NoDayForIt x = new NoDayForIt();
        for (int i = 0; i < 7; i++) {
            DUE.is("at first, count " + i, x.count(i), first[i]);
        }
        Due.law(x, "year 60;days 20 29 holy;");
        int[] times = {0, 0, 3, 3, 3, 0, 3, 3};
        for (int p = 0; p < 8; p++) {
            x.person(p / 3, times[p]);
        }
        for (int g = 0; g < 9; g++) {
            x.group();
        }
        Due.type(x, " ".repeat(400));
        for (int i = 0; i < 7; i++) {
            DUE.is("at most, count " + i, x.count(i), most[i]);
        }
        for (int d = 0; d < 6; d++) {
            x.act(HOLY, d < 3 ? 6 : 7, 59 - d);
        }
        DUE.is("holy by acts, not as told", x.count(6), 6);
        DUE.is("no signs left", x.count(5), 0);
        DUE.is("voices are all left", x.count(4), 6);
    }
}
