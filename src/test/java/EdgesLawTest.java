import java.util.Arrays;

/**
 * The edges that "1 THE YEAR" and "THE LAW" name, sentence by sentence in the document's order
 * (promises 1 to 9). Each sentence stands above its test.
 */
public final class EdgesLawTest {
    private static final Due DUE = new Due("EdgesLawTest");
    private static final String[] KINDS = {"free", "market", "holy", "dark"};
    private static final String STEP = "step free after 0;";

    public static void main(String[] args) {
        yearOfDays();
        billsAndSteps();
        bytes();
        blanks();
        itemsEnded();
        years();
        everys();
        dayRows();
        laterCounts();
        beyondTheYear();
        bills();
        stepOfLastBill();
        kindsOfStep();
        wishesOfStep();
        stepNumbers();
        numbers();
        words();
        firstFault();
        tooEarly();
        everyTokenElsewhere();
        nothingOfLawsAhead();
        mayByDays();
        mayByMarkets();
        mayWithin();
        mayFirst();
        fallsBack();
        people();
        DUE.end();
    }

    private static void reads(String text, int items) {
        DUE.is("reads " + text, Due.law(new NoDayForIt(), text), items);
    }

    private static void fault(String text, int place) {
        DUE.is("fault of " + text, Due.law(new NoDayForIt(), text), -10 - place);
    }

    /** A NUMBER between two parts of a text that may be least .. most, and none else. */
    private static void number(String before, String behind, int least, int most) {
        for (int v = 0; v <= 130; v++) {
            String text = before + v + behind;
            int got = Due.law(new NoDayForIt(), text);
            boolean isWell = v >= least && v <= most;
            DUE.is(text, isWell ? Math.min(got, 0) : got, isWell ? 0 : -10 - before.length());
            fault(before + "0" + v + behind, before.length());
        }
        // What would be least .. most, if an int or a byte ran over.
        fault(before + (256 + least) + behind, before.length());
        fault(before + (4294967296L + most) + behind, before.length());
        fault(before + "-1" + behind, before.length());
        fault(before + "+" + most + behind, before.length());
        boolean isOtherNumber = behind.startsWith(" 5");
        if (!isOtherNumber) {
            fault(before + behind, before.length() + (behind.startsWith(" ") ? 1 : 0));
        }
    }

    // "a year of N DAYS 0 .. (10 .. 60; 30 at first), each of a KIND: 0 free (at first)"
    private static void yearOfDays() {
        NoDayForIt x = new NoDayForIt();
        DUE.is("30 at first", x.count(0), 30);
        DUE.is("day 29", x.day(29), 0);
        DUE.is("day 30", x.day(30), -1);
        DUE.is("free at first", x.days(0, 0, 29), 30);
        for (int n = 10; n <= 60; n++) {
            NoDayForIt y = Due.withLaw("year " + n + ";");
            DUE.is("days of " + n, y.count(0), n);
            DUE.is("the last of " + n, y.day(n - 1), 0);
            DUE.is("behind the last of " + n, y.day(n), -1);
            DUE.is("all free of " + n, y.days(0, 0, n - 1), n);
        }
        Due.law(x, "year 60;days 0 59 dark;");
        Due.law(x, "bill;");
        DUE.is("30 at first of a law anew", x.count(0), 30);
        DUE.is("free at first of a law anew", x.days(0, 0, 29), 30);
    }

    // "BILLS 0, 1 have 0 .. 4 STEPS (none at first)."
    private static void billsAndSteps() {
        NoDayForIt x = new NoDayForIt();
        DUE.is("none at first", x.bill(0, 0) + x.bill(1, 0), 0);
        for (int many = 0; many <= 4; many++) {
            NoDayForIt y = Due.withLaw("bill;" + STEP.repeat(many) + "bill;" + STEP.repeat(4 - many));
            DUE.is("steps " + many, y.bill(0, 0), many);
            DUE.is("steps of the other " + many, y.bill(1, 0), 4 - many);
            DUE.is("step behind the last " + many, y.step(0, many, 0), -1);
            DUE.is("step behind the last of the other " + many, y.step(1, 4 - many, 0), -1);
            DUE.is("the last step " + many, y.step(0, many - 1, 0), many == 0 ? -1 : 1);
        }
        Due.law(x, "bill;" + STEP + "bill;" + STEP);
        Due.law(x, "bill;");
        DUE.is("none at first of a law anew", x.bill(0, 0) + x.bill(1, 0), 0);
    }

    // "THE LAW is a text (400 bytes at most), read byte by byte"
    private static void bytes() {
        String item = "bill;step free market after 0;";
        String whole = item + " ".repeat(369) + "bill;";
        DUE.is("404 bytes", whole.length(), 404);
        NoDayForIt x = new NoDayForIt();
        Due.type(x, whole);
        DUE.is("the last eight did not come", x.count(3), 400);
        DUE.is("all but the last item", x.law(), -10 - 399);
        reads(item + " ".repeat(365) + "bill;", 3);
        reads(item + " ".repeat(370), 2);
        fault(item + " ".repeat(365) + "bill ", 400);
        fault(item + " ".repeat(369) + "$", 399);
        reads("days0 0free;".repeat(33), 33);
        DUE.is("the last item counts", Due.withLaw("days 0 0 free;".repeat(27) + "days 9 9 dark;")
            .day(9), 3);
        NoDayForIt y = new NoDayForIt();
        y.type(0x62696c6cL, 4);
        y.type(0xff3bL, 1);
        DUE.is("the lowest byte of v alone", y.law(), 1);
        y.type(0x62696c6c3bL << 24, 8);
        DUE.is("bytes 0 are no blanks", y.law(), -15);
        DUE.is("still there", y.clear(), 8);
        y.type(0x202020L << 40 | 0x62696c6c3bL, 8);
        DUE.is("the highest byte first", y.law(), 1);
        DUE.is("empty then", y.count(3), 0);
        DUE.is("nothing is told by no byte", y.law(), 0);
    }

    // "blanks (32) between TOKENS", "of a byte that begins none .. that TOKEN's"
    private static void blanks() {
        for (int c = 0; c < 256; c++) {
            String sign = String.valueOf((char) c);
            boolean isLetter = c >= 'a' && c <= 'z';
            String told = "byte " + c;
            DUE.is(told + " first", Due.law(new NoDayForIt(), sign + "bill;"),
                c == ' ' ? 1 : -10);
            DUE.is(told + " last", Due.law(new NoDayForIt(), "bill;" + sign), c == ' ' ? 1 : -15);
            int between = Due.law(new NoDayForIt(), "year" + sign + "20;");
            DUE.is(told + " between", between, c == ' ' ? 1 : isLetter ? -10 : -14);
            int inside = Due.law(new NoDayForIt(), "ye" + sign + "ar 20;");
            DUE.is(told + " in a word", inside, -10);
        }
        reads("", 0);
        reads(" ", 0);
        reads(" ".repeat(400), 0);
        reads("  bill  ;  bill  ;  ", 2);
        reads("year10;every2from0dark;days1 1holy;bill;step free dark after0market within1;", 5);
        fault("yea r 20;", 0);
        fault("year 2 0;", 5);
        fault("year 10 0;", 8);
        fault("bill ; ;", 7);
        fault("days 11 dark;", 8);
        fault("every 2from0 darkdark;", 13);
    }

    // "ITEMS, each ended by ;"
    private static void itemsEnded() {
        String[] items = {"year 20", "every 2 from 3 dark", "days 2 3 dark", "bill"};
        for (String item : items) {
            reads(item + ";", 1);
            fault(item, item.length());
            fault(item + " bill;", item.length() + 1);
            fault(item + " 5;", item.length() + 1);
            fault(item + ";;", item.length() + 1);
        }
        fault("bill;" + STEP + ";", 23);
        fault("bill;step free after 0 bill;", 23);
        fault("bill;step free after 0 0;", 23);
        fault("bill;step free after 0 free;", 23);
    }

    // "year N (the first of all, if it is told)", "a year behind another ITEM"
    private static void years() {
        number("year ", ";", 10, 60);
        String[] ahead = {"year 20;", "every 2 from 3 dark;", "days 2 3 dark;", "bill;",
            "bill;" + STEP};
        for (String item : ahead) {
            fault(item + "year 20;", item.length());
            fault(item + " year 20;", item.length() + 1);
        }
        reads(" year 20;bill;", 2);
        reads("bill;", 1);
    }

    // "every K from F KIND (K 1 .. 60, F 0 .. 59: DAYS F, F and K, ..)"
    private static void everys() {
        number("every ", " from 0 dark;", 1, 60);
        number("every 7 from ", " dark;", 0, 59);
        for (int k = 1; k <= 60; k++) {
            for (int f = 0; f < 60; f += k > 4 && k < 57 ? 7 : 1) {
                NoDayForIt x = Due.withLaw("year 60;every " + k + " from " + f + " holy;");
                int wrong = 0;
                for (int d = 0; d < 60; d++) {
                    int kind = d >= f && (d - f) % k == 0 ? 2 : 0;
                    wrong += x.day(d) == kind ? 0 : 1;
                }
                DUE.is("every " + k + " from " + f, wrong, 0);
            }
        }
        fault("every 5 from 1;", 14);
        fault("every 5 from 1 5;", 15);
        fault("every 5 from 1 grey;", 15);
        fault("every 5 from 1 dark dark;", 20);
        fault("every 5 1 dark;", 8);
        fault("every from 1 dark;", 6);
        fault("every 5 from dark;", 13);
        fault("every dark;", 6);
        fault("every 5 dark;", 8);
        everyKind("every 60 from 9 ");
    }

    private static void everyKind(String before) {
        for (int kind = 0; kind < 4; kind++) {
            NoDayForIt x = Due.withLaw("days 9 9 " + KINDS[(kind + 1) % 4] + ";" + before
                + KINDS[kind] + ";");
            DUE.is(before + KINDS[kind], x.day(9), kind);
        }
    }

    // "days D E KIND (D 0 .. 59, E D .. 59: all of these)"
    private static void dayRows() {
        number("days ", " 59 dark;", 0, 59);
        for (int d = 0; d < 60; d++) {
            number("days " + d + " ", " dark;", d, 59);
        }
        int[] ends = {0, 1, 9, 10, 29, 30, 58, 59};
        for (int d : ends) {
            for (int e : ends) {
                if (e < d) {
                    continue;
                }
                NoDayForIt x = Due.withLaw("year 60;days " + d + " " + e + " market;");
                DUE.is("all of these " + d + " " + e, x.days(1, d, e), e - d + 1);
                DUE.is("no others " + d + " " + e, x.days(1, 0, 59), e - d + 1);
            }
        }
        fault("days 5;", 6);
        fault("days dark;", 5);
        fault("days dark 5 6;", 5);
        fault("days ;", 5);
        fault("days 5 dark;", 7);
        fault("days 5 6 7 dark;", 9);
        fault("days 5 6;", 8);
        fault("days 5 6 year;", 9);
        everyKind("days 9 9 ");
    }

    // "(what is told later counts; ..)"
    private static void laterCounts() {
        NoDayForIt x = Due.withLaw("year 10;days 0 9 dark;every 2 from 0 holy;days 4 5 free;");
        int[] kinds = {2, 3, 2, 3, 0, 0, 2, 3, 2, 3};
        for (int d = 0; d < 10; d++) {
            DUE.is("later counts " + d, x.day(d), kinds[d]);
        }
        NoDayForIt y = Due.withLaw("year 10;days 4 5 free;every 2 from 0 holy;days 0 9 dark;");
        DUE.is("the last tells all", y.days(3, 0, 9), 10);
        NoDayForIt z = Due.withLaw("bill;step free after 0;days 3 3 dark;bill;every 9 from 3 holy;");
        DUE.is("days may be told behind bills", z.day(3) + z.day(12), 4);
    }

    // "DAYS beyond THE YEAR are none"
    private static void beyondTheYear() {
        NoDayForIt x = Due.withLaw("year 10;days 9 59 dark;every 1 from 10 holy;bill;"
            + "step holy after 0;bill;step dark after 0;step dark after 1;");
        DUE.is("the last", x.day(9), 3);
        DUE.is("beyond", x.day(10), -1);
        DUE.is("no count of these", x.days(3, 0, 9), 1);
        DUE.is("to beyond", x.days(3, 0, 10), -1);
        DUE.is("none for a step", x.soon(0, -1), -9);
        DUE.is("none for a second", x.soon(1, -1), -9);
        DUE.is("none against the kinds", x.against(1), 1);
        NoDayForIt y = Due.withLaw("days 30 59 dark;bill;step dark after 0;");
        DUE.is("30 days, if none are told", y.soon(0, -1), -9);
    }

    // "bill (BILL 0 begins, then BILL 1)", "a third bill"
    private static void bills() {
        reads("bill;bill;", 2);
        fault("bill;bill;bill;", 10);
        fault("bill;" + STEP + "bill;" + STEP + " bill;", 47);
        NoDayForIt x = Due.withLaw("bill;" + STEP + "days 0 0 dark;" + STEP + "bill;" + STEP);
        DUE.is("bill 0", x.bill(0, 0), 2);
        DUE.is("bill 1", x.bill(1, 0), 1);
    }

    // "(a STEP of the BILL that began last, 4 at most ..)", "a fifth STEP, a step ahead of any bill"
    private static void stepOfLastBill() {
        fault(STEP, 0);
        fault("year 20;" + STEP, 8);
        fault("bill;" + STEP.repeat(5), 77);
        fault("bill;bill;" + STEP.repeat(5), 82);
        fault("bill;" + STEP.repeat(4) + "bill;" + STEP.repeat(5), 154);
        reads("bill;" + STEP.repeat(4) + "bill;" + STEP.repeat(4), 10);
        reads("bill;" + STEP.repeat(4) + "bill;", 6);
    }

    // "KINDS: one or more of free, market, holy, dark, each once", "a KIND told again in one STEP"
    private static void kindsOfStep() {
        for (int a = 0; a < 4; a++) {
            String first = "bill;step " + KINDS[a] + " ";
            kindsAre(first, 1 << a);
            for (int b = 0; b < 4; b++) {
                String second = first + KINDS[b] + " ";
                if (a == b) {
                    fault(second + "after 0;", first.length());
                    continue;
                }
                kindsAre(second, 1 << a | 1 << b);
                for (int c = 0; c < 4; c++) {
                    String third = second + KINDS[c] + " ";
                    if (a == c || b == c) {
                        fault(third + "after 0;", second.length());
                        continue;
                    }
                    kindsAre(third, 1 << a | 1 << b | 1 << c);
                    int last = 6 - a - b - c;
                    kindsAre(third + KINDS[last] + " ", 15);
                    String four = third + KINDS[last] + " ";
                    fault(four + KINDS[a] + " after 0;", four.length());
                    fault(four + KINDS[last] + " after 0;", four.length());
                }
            }
        }
        fault("bill;step after 0;", 10);
        fault("bill;step;", 9);
        fault("bill;step 0 after 0;", 10);
        reads("bill;step free after 0;step free after 0;", 3);
    }

    private static void kindsAre(String before, int bits) {
        DUE.is(before, Due.withLaw(before + "after 0;").step(0, 0, 0), bits);
    }

    // "then perhaps market, then perhaps within W, then perhaps voice, then perhaps sign"
    private static void wishesOfStep() {
        for (int bits = 0; bits < 16; bits++) {
            NoDayForIt x = Due.withLaw("bill;step free after 5" + ((bits & 1) > 0 ? " market" : "")
                + ((bits & 2) > 0 ? " within 7" : "") + ((bits & 4) > 0 ? " voice" : "")
                + ((bits & 8) > 0 ? " sign" : "") + ";");
            DUE.is("after " + bits, x.step(0, 0, 1), 5);
            DUE.is("market " + bits, x.step(0, 0, 2), bits & 1);
            DUE.is("within " + bits, x.step(0, 0, 3), (bits & 2) > 0 ? 7 : -9);
            DUE.is("who " + bits, x.step(0, 0, 4), bits >> 2);
        }
        String before = "bill;step free after 5 ";
        String[] parts = {"market", "within 7", "voice", "sign"};
        for (int i = 0; i < 4; i++) {
            for (int j = 0; j <= i; j++) {
                fault(before + parts[i] + " " + parts[j] + ";",
                    before.length() + parts[i].length() + 1);
            }
        }
        fault(before + "within;", before.length() + 6);
        fault(before + "within voice;", before.length() + 7);
        fault("bill;step free 5;", 15);
        fault("bill;step free market 5;", 22);
        fault("bill;step free within 7;", 15);
        fault("bill;step free after market;", 21);
    }

    // "G 0 .. 59, W 1 .. 60"
    private static void stepNumbers() {
        number("bill;step free after ", ";", 0, 59);
        number("bill;step free after ", " market within 3;", 0, 59);
        number("bill;step free after 0 within ", ";", 1, 60);
        number("bill;step free after 0 market within ", " voice;", 1, 60);
        NoDayForIt x = Due.withLaw("bill;step free after 0 within 1;step free after 59 within 60;");
        DUE.is("G 0", x.step(0, 0, 1), 0);
        DUE.is("W 1", x.step(0, 0, 3), 1);
        DUE.is("G 59", x.step(0, 1, 1), 59);
        DUE.is("W 60", x.step(0, 1, 3), 60);
    }

    // "a NUMBER above 99 or with a 0 ahead of others, that TOKEN's"
    private static void numbers() {
        reads("days 0 0 free;", 1);
        fault("days 00 0 free;", 5);
        fault("days 0 00 free;", 7);
        fault("days 0 01 free;", 7);
        fault("days 0 000 free;", 7);
        fault("year 100;", 5);
        fault("year 99;", 5);
        fault("year 0;", 5);
        fault("year 020;", 5);
        fault("year 1000000000000000000000010;", 5);
        // Where no NUMBER may stand, the place is the same.
        fault("bill 007;", 5);
        fault("bill;100;", 5);
        fault("5;", 0);
    }

    // "a word that is none of these"
    private static void words() {
        String[] known = {"year", "every", "from", "days", "bill", "step", "after", "within",
            "voice", "sign", "free", "market", "holy", "dark"};
        for (String w : known) {
            boolean begins = w.equals("bill");
            DUE.is(w + " first", Due.law(new NoDayForIt(), w + ";"),
                begins ? 1 : w.equals("year") || w.equals("every") || w.equals("days")
                    ? -10 - w.length() : -10);
            DUE.is(w + " for a mark", Due.law(new NoDayForIt(), "bill " + w + ";"), -15);
            fault(w + "s 20;", 0);
            fault("x" + w + " 20;", 0);
            fault(w.substring(0, w.length() - 1) + " 20;", 0);
            fault(w.substring(0, 1).toUpperCase() + w.substring(1) + " 20;", 0);
            fault("bill;step free after 0 " + w + "x;", 23);
        }
        fault("bill;step freemarket after 0;", 10);
        fault("bill;step free after 0 voicesign;", 23);
        fault("billbill;", 0);
    }

    // "the place of the first byte of the first TOKEN that can't stand there"
    private static void firstFault() {
        fault("year 9; $$$ year 20;", 5);
        fault("bill;bill;bill; 007", 10);
        fault("  days  7  6  dark ; step", 11);
        fault("bill;step free free holy holy after 99;", 15);
        fault("year 20;bill;days 60 1 grey", 18);
        fault("year 61 61", 5);
    }

    // "the text's length, if it ends too early"
    private static void tooEarly() {
        String[] tokens = {"year ", "60 ", ";", "every ", "60 ", "from ", "59 ", "dark ", ";",
            "days ", "0 ", "59 ", "free ", ";", "bill ", ";", "step ", "free ", "holy ", "after ",
            "59 ", "market ", "within ", "60 ", "voice ", "sign ", ";"};
        String text = "";
        int items = 0;
        for (String token : tokens) {
            text += token;
            boolean isEnd = token.equals(";");
            items += isEnd ? 1 : 0;
            for (int more = 0; more < 3; more++) {
                String cut = text + " ".repeat(more);
                DUE.is("ends: " + cut, Due.law(new NoDayForIt(), cut), isEnd ? items
                    : -10 - cut.length());
            }
            DUE.is("ends without a blank: " + text, Due.law(new NoDayForIt(), text.stripTrailing()),
                isEnd ? items : -10 - text.stripTrailing().length());
        }
    }

    /** Each TOKEN at each place of a law, instead of what stands there, and between. */
    private static void everyTokenElsewhere() {
        String[] law = {"year", "12", ";", "every", "3", "from", "2", "market", ";", "days", "4",
            "5", "dark", ";", "bill", ";", "step", "free", "holy", "after", "1", "market",
            "within", "9", "voice", "sign", ";", "step", "dark", "after", "0", ";", "bill", ";",
            "step", "free", "after", "2", ";"};
        String[] tokens = {"year", "every", "from", "days", "bill", "step", "after", "within",
            "voice", "sign", "free", "market", "holy", "dark", ";", "0", "1", "4", "9", "10", "59",
            "60", "61", "99", "100", "05", "grey", "$", ""};
        for (int i = 0; i <= law.length; i++) {
            for (String token : tokens) {
                String before = String.join(" ", Arrays.copyOfRange(law, 0, i));
                sameAsModel(before + " " + token + " " + from(law, i));
                if (i < law.length) {
                    sameAsModel(before + " " + token + " " + from(law, i + 1));
                }
            }
        }
    }

    private static String from(String[] law, int i) {
        return String.join(" ", Arrays.copyOfRange(law, i, law.length));
    }

    private static void sameAsModel(String text) {
        PlainModel y = new PlainModel();
        for (int i = 0; i < text.length(); i++) {
            y.type(text.charAt(i), 1);
        }
        DUE.is(text, Due.law(new NoDayForIt(), text), y.law());
    }

    // "THE TEXT becomes THE LAW", "-10 less FAULT: nothing changes": whatever was read ahead of it
    private static void nothingOfLawsAhead() {
        String much = "year 60;days 0 59 dark;bill;" + "step dark after 9 market within 5 voice sign;"
            .repeat(4) + "bill;" + "step dark after 9 market within 5 voice sign;".repeat(4);
        String[] ends = {"", "$", "year 20;", "step dark after 5 market within 7 voice sign"};
        for (int many = 1; many <= 4; many++) {
            for (String end : ends) {
                NoDayForIt x = new NoDayForIt();
                for (int i = 0; i < many; i++) {
                    Due.law(x, much + end);
                    x.mended(0);
                    x.clear();
                }
                String told = many + " laws with " + end + ": ";
                DUE.is(told + "items", Due.law(x, "bill;" + STEP + "bill;bill;"), -38);
                DUE.is(told + "items", Due.law(x, "bill;" + STEP + "bill;" + STEP + STEP), 5);
                DUE.is(told + "days", x.count(0), 30);
                DUE.is(told + "free", x.days(0, 0, 29), 30);
                DUE.is(told + "steps", 10 * x.bill(0, 0) + x.bill(1, 0), 12);
                int[] first = {1, 0, 0, -9, 0};
                for (int what = 0; what < 5; what++) {
                    DUE.is(told + "step, " + what, x.step(0, 0, what), first[what]);
                    DUE.is(told + "third step, " + what, x.step(1, 1, what), first[what]);
                }
                DUE.is(told + "no year", Due.law(x, "days 0 29 market;"), 1);
                DUE.is(told + "no steps", x.bill(0, 0) + x.bill(1, 0), 0);
                DUE.is(told + "days again", x.count(0), 30);
            }
        }
    }

    // "if G DAYS at least are from the DAY of the STEP ahead to it (0: the same DAY is well)"
    private static void mayByDays() {
        for (int g = 0; g <= 59; g++) {
            NoDayForIt x = Due.withLaw("year 60;bill;step free after 0;step free after " + g + ";");
            DUE.is("just G " + g, x.may(0, 1, 0, g), 1);
            DUE.is("G at the end " + g, x.may(0, 1, 59 - g, 59), 1);
            DUE.is("one less " + g, g > 0 ? x.may(0, 1, 0, g - 1) : 0, 0);
            DUE.is("one less at the end " + g, g > 0 ? x.may(0, 1, 60 - g, 59) : 0, 0);
            DUE.is("the same day " + g, x.may(0, 1, 30, 30), g == 0 ? 1 : 0);
            DUE.is("the day ahead is behind " + g, x.may(0, 1, 31, 30), 0);
            DUE.is("it does not matter " + g, x.may(0, 1, -9, 0), 1);
        }
    }

    // "with market: if G DAYS of KIND market at least are among those behind that DAY, up to it"
    private static void mayByMarkets() {
        String law = "year 60;every 4 from 3 market;bill;step free after 0;";
        NoDayForIt x = Due.withLaw(law + "step free market after 0 market;"
            + "step free market after 1 market;step free market after 2 market;");
        DUE.is("0 on the same day", x.may(0, 1, 2, 2), 1);
        DUE.is("0 on the same market", x.may(0, 1, 3, 3), 1);
        DUE.is("0, the day ahead is behind", x.may(0, 1, 3, 2), 0);
        DUE.is("1, none yet", x.may(0, 2, 0, 2), 0);
        DUE.is("1, up to it", x.may(0, 2, 0, 3), 1);
        DUE.is("1, between", x.may(0, 2, 2, 4), 1);
        DUE.is("1, the day ahead itself is none", x.may(0, 2, 3, 6), 0);
        DUE.is("1, the next", x.may(0, 2, 3, 7), 1);
        DUE.is("2, one of two", x.may(0, 3, 3, 10), 0);
        DUE.is("2, up to it", x.may(0, 3, 3, 11), 1);
        DUE.is("2, far behind", x.may(0, 3, 3, 12), 1);
        DUE.is("2, the last two", x.may(0, 3, 54, 59), 1);
        DUE.is("2, one of the last two", x.may(0, 3, 55, 59), 0);
        NoDayForIt y = Due.withLaw("year 60;days 0 59 market;bill;step free after 0;"
            + "step market after 59 market;bill;step free after 0;step market after 58 market;");
        DUE.is("59 of 59", y.may(0, 1, 0, 59), 1);
        DUE.is("59 of 58", y.may(0, 1, 1, 59), 0);
        DUE.is("58 of 58", y.may(1, 1, 1, 59), 1);
        DUE.is("59 of 58, the first does not count", y.may(0, 1, 0, 58), 0);
    }

    // "if it is W DAYS at most behind it (without within: any)"
    private static void mayWithin() {
        for (int w = 1; w <= 60; w++) {
            NoDayForIt x = Due.withLaw("year 60;days 1 59 market;bill;step free after 0;"
                + "step free market after 0 within " + w + ";"
                + "step free market after 1 market within " + w + ";");
            for (int k = 1; k <= 2; k++) {
                DUE.is("just W " + w, w < 60 ? x.may(0, k, 0, w) : 1, 1);
                DUE.is("one more " + w, w < 59 ? x.may(0, k, 0, w + 1) : 0, 0);
                DUE.is("at the end " + w, x.may(0, k, Math.max(0, 59 - w), 59), 1);
                DUE.is("one more at the end " + w, w < 59 ? x.may(0, k, 58 - w, 59) : 0, 0);
            }
        }
        NoDayForIt y = Due.withLaw("year 60;bill;step free after 0;step free after 0;"
            + "step free after 5 within 4;step free after 5 within 5;");
        DUE.is("without within", y.may(0, 1, 0, 59), 1);
        DUE.is("W less than G", y.may(0, 2, 0, 4) + y.may(0, 2, 0, 5), 0);
        DUE.is("W is G", y.may(0, 3, 0, 5), 1);
        DUE.is("W is G, no other", y.may(0, 3, 0, 4) + y.may(0, 3, 0, 6), 0);
    }

    // "but for the first STEP of a BILL", "(NONE: it is the first one's, or it does not matter)"
    private static void mayFirst() {
        String first = "step free after 59 market within 1;";
        NoDayForIt x = Due.withLaw("year 20;days 7 7 dark;bill;" + first + "bill;" + first + first);
        for (int d = 0; d < 20; d++) {
            int isFree = d == 7 ? 0 : 1;
            DUE.is("first on " + d, x.may(0, 0, -9, d), isFree);
            DUE.is("first, any day ahead, on " + d, x.may(1, 0, 19 - d, d), isFree);
            DUE.is("second, it does not matter, on " + d, x.may(1, 1, -9, d), isFree);
            DUE.is("second on " + d, x.may(1, 1, d, d), 0);
        }
    }

    // "more than W DAYS behind (the DAY it is now is later) has FALLEN BACK: its first STEP is next"
    private static void fallsBack() {
        for (int w = 1; w <= 60; w++) {
            NoDayForIt x = Due.withLaw("year 60;bill;step free after 0 within 1;"
                + "step dark after 0 within " + w + ";");
            x.person(0, 0);
            x.act(0, 0, 0);
            Due.waitTo(x, Math.min(59, w));
            DUE.is("W days behind " + w, x.bill(0, 1), 1);
            DUE.is("its day " + w, x.bill(0, 2), 0);
            if (w < 59) {
                x.act(5, 0, 0);
                DUE.is("more than W " + w, x.bill(0, 1), 0);
                DUE.is("no day " + w, x.bill(0, 2), -9);
                DUE.is("the first is next " + w, x.act(0, 0, 0), 1);
                DUE.is("from then on " + w, x.bill(0, 2), w + 1);
            }
        }
        fallsBackLater();
    }

    private static void fallsBackLater() {
        for (int k = 1; k <= 3; k++) {
            String law = "year 20;bill;step free after 0 within 1;"
                + "step free after 0;".repeat(k - 1) + "step dark after 0 within 3;"
                + "step free after 0 within 1;".repeat(3 - k);
            NoDayForIt x = Due.withLaw(law);
            x.person(0, 0);
            x.act(0, 0, 0);
            Due.waitTo(x, k == 1 ? 0 : 6);
            for (int i = 1; i < k; i++) {
                x.act(0, 0, 0);
            }
            int last = k == 1 ? 0 : 6;
            Due.waitTo(x, last + 3);
            DUE.is("still done " + k, x.bill(0, 1), k);
            x.act(5, 0, 0);
            DUE.is("all of it fell back " + k, x.bill(0, 1), 0);
        }
        NoDayForIt y = Due.withLaw("year 20;bill;step free after 0 within 1;");
        y.person(0, 0);
        y.act(0, 0, 0);
        Due.waitTo(y, 19);
        DUE.is("with no next step it does not", y.bill(0, 1), 1);
        DUE.is("it stays carried", y.now(5), 1);
    }

    // "PEOPLE 0 .. 7 (as they come; 8 at most)", "TIMES (0 .. 3)", "6 at most together as told"
    private static void people() {
        NoDayForIt x = new NoDayForIt();
        for (int p = 0; p < 8; p++) {
            DUE.is("as they come " + p, x.person(0, p % 4), p);
            DUE.is("times of " + p, x.who(p, 1), p % 4);
            DUE.is("so many " + p, x.count(1), p + 1);
        }
        DUE.is("no ninth", x.person(0, 0), -3);
        DUE.is("no ninth voice", x.person(1, 0), -3);
        DUE.is("eight", x.count(1), 8);
        NoDayForIt y = new NoDayForIt();
        for (int office = 1; office <= 2; office++) {
            DUE.is("3", Math.min(0, y.person(office, 3)), 0);
            DUE.is("and 3 are 6", Math.min(0, y.person(office, 3)), 0);
            DUE.is("7", y.person(office, 1), -3);
            DUE.is("6 and 0", Math.min(0, y.person(office, 0)), 0);
        }
        DUE.is("voices", y.count(4), 6);
        DUE.is("signs", y.count(5), 6);
        DUE.is("people", y.count(1), 6);
        DUE.is("without office, 3 more", y.person(0, 3), 6);
        DUE.is("and 3 more", y.person(0, 3), 7);
    }
}
