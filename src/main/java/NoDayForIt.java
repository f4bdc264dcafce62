import java.util.Arrays;

/** A year of days by rules that a text tells, and bills that want days in it. */
public final class NoDayForIt {
    public static final int BAD = -1, STATE = -2, FULL = -3, NONE = -9;

    private static final int BAD_WISH = -100, FAULT_BASE = -10;

    private static final int TEXT_MOST = 400, YEAR_MOST = 60, YEAR_LEAST = 10, YEAR_FIRST = 30;
    private static final int BILLS = 2, STEPS_MOST = 4, PEOPLE_MOST = 8;
    private static final int TIMES_MOST = 3, TOGETHER_MOST = 6;
    private static final int GROUPS_MOST = 9, MATTERS = 6, WISH_MOST = 9;
    private static final int WORDS = 5, IMAGES = 2;

    private static final int FREE = 0, MARKET = 1, HOLY = 2, DARK = 3;
    private static final int VOICE = 1, SIGN = 2;
    private static final int CALL = 0, FORBID = 1, WATCH = 2, MAKE_HOLY = 3, FORCE = 4, WAIT = 5;
    private static final int KIND_ACT = 0, KIND_STEP = 1, KIND_FORBID = 2, KIND_WATCH = 3,
        KIND_HOLY = 4, KIND_JOIN = 5, KIND_FORCE = 6;
    private static final int LESS_AFTER = 2, MORE_KINDS = 3;

    private final byte[] text = new byte[TEXT_MOST];
    private int textSize;
    private Law told = new Law();
    // A law is read here first, and mended here, so that the law that stands is not touched.
    private Law draft = new Law();
    private final LawReader reader = new LawReader(text, draft);
    private final People people = new People();
    private final Acts acts = new Acts();
    private final Acts nothingDone = new Acts();
    private final Acts[] images = new Acts[IMAGES];
    // By bits, which of the images were kept.
    private int kept;
    private final DaysAhead ahead = new DaysAhead(told);
    private final Matters matters = new Matters();
    private final int[] wordWhat = new int[WORDS];
    private final int[] wordOf = new int[WORDS];
    private final int[] wordBy = new int[WORDS];
    private long traced;

    public NoDayForIt() {
        for (int i = 0; i < images.length; i++) {
            images[i] = new Acts();
        }
    }

    // ---- laws

    public int type(long v, int n) {
        if (n < 1 || n > 8) {
            return BAD;
        }
        if (textSize + n > TEXT_MOST) {
            return FULL;
        }
        for (int i = n - 1; i >= 0; i--) {
            if (textSize >= 0 && textSize < text.length) {
                text[textSize] = (byte) (v >>> (8 * i));
                textSize++;
            }
        }
        return textSize;
    }

    public int clear() {
        int had = textSize;
        textSize = 0;
        return had;
    }

    public int law() {
        int fault = reader.read(textSize, draft);
        if (fault >= 0) {
            return FAULT_BASE - fault;
        }
        Law read = draft;
        draft = told;
        told = read;
        textSize = 0;
        acts.begin(people);
        kept = 0;
        return told.items;
    }

    public int day(int d) {
        return isDay(d) ? kindNow(d) : BAD;
    }

    public int days(int kind, int from, int to) {
        if (!isKind(kind) || !isDay(from) || !isDay(to)) {
            return BAD;
        }
        int many = 0;
        for (int d = from; d <= to; d++) {
            if (kindNow(d) == kind) {
                many++;
            }
        }
        return many;
    }

    public int step(int bill, int k, int what) {
        if (!told.hasStep(bill, k) || what < 0 || what > 4) {
            return BAD;
        }
        Step step = told.stepAt(bill, k);
        switch (what) {
            case 0: return step.kinds;
            case 1: return step.after;
            case 2: return step.byMarket ? 1 : 0;
            case 3: return step.within;
            default: return step.offices;
        }
    }

    public int may(int bill, int k, int ahead, int d) {
        if (!told.hasStep(bill, k) || !isDay(d) || ahead != NONE && !isDay(ahead)) {
            return BAD;
        }
        return mayBeDone(bill, k, ahead, d) ? 1 : 0;
    }

    private static boolean isBill(int bill) {
        return bill >= 0 && bill < BILLS;
    }

    private static boolean isKind(int kind) {
        return kind >= FREE && kind <= DARK;
    }

    private boolean isDay(int d) {
        return d >= 0 && d < told.length;
    }

    private int kindNow(int d) {
        return acts.isMadeHoly(d) ? HOLY : told.kindOf(d);
    }

    private boolean mayBeDone(int bill, int k, int from, int d) {
        ahead.see(told, acts);
        Step step = told.stepAt(bill, k);
        return ahead.isOfItsKinds(step, d) && ahead.isFarEnough(step, k == 0 ? NONE : from, d);
    }

    // ---- people, acts

    public int person(int office, int times) {
        if (office < 0 || office > SIGN || times < 0 || times > TIMES_MOST) {
            return BAD;
        }
        if (!people.hasRoom(office, times)) {
            return FULL;
        }
        int p = people.add(office, times);
        put(acts.left, p, times);
        return p;
    }

    public int who(int p, int what) {
        if (!people.has(p) || what < 0 || what > 2) {
            return BAD;
        }
        switch (what) {
            case 0: return people.officeOf(p);
            case 1: return people.timesOf(p);
            default: return at(acts.left, p);
        }
    }

    public int act(int what, int p, int of) {
        if (what < CALL || what > WAIT || !people.has(p) || !canBeOf(what, of)) {
            return BAD;
        }
        boolean lawful = isDoneLawfully(what, p, of);
        if (!lawful) {
            acts.slip();
        }
        acts.aheadWhat = lawful ? what : NONE;
        acts.acts++;
        return lawful ? 1 : 0;
    }

    public int now(int what) {
        switch (what) {
            case 0: return acts.today;
            case 1: return acts.acts;
            case 2: return acts.slips;
            case 3: return acts.firstSlip;
            case 4: return acts.watched ? 1 : 0;
            case 5: return carriedBills();
            case 6: return acts.voids;
            default: return BAD;
        }
    }

    public int bill(int bill, int what) {
        if (!isBill(bill)) {
            return BAD;
        }
        switch (what) {
            case 0: return told.stepsOf(bill);
            case 1: return acts.doneOf(bill);
            case 2: return acts.lastOf(bill);
            default: return BAD;
        }
    }

    private boolean canBeOf(int what, int of) {
        if (what == CALL) {
            return isBill(of);
        }
        return what == MAKE_HOLY ? isDay(of) : of == 0;
    }

    private boolean isDoneLawfully(int what, int p, int of) {
        switch (what) {
            case CALL: return callOf(of);
            case FORBID: return forbidBy(p);
            case WATCH: return watchBy(p);
            case MAKE_HOLY: return makeHolyBy(p, of);
            case FORCE: return forceOn();
            default: return waitOn();
        }
    }

    private boolean callOf(int bill) {
        int k = acts.doneOf(bill);
        int last = acts.lastOf(bill);
        if (!told.hasStep(bill, k) || acts.watched || !mayBeDone(bill, k, last, acts.today)) {
            return false;
        }
        acts.called = true;
        acts.aheadBill = bill;
        acts.aheadLast = last;
        acts.setRun(bill, k + 1, acts.today);
        return true;
    }

    private boolean forbidBy(int p) {
        if (acts.aheadWhat != CALL || at(acts.left, p) <= 0) {
            return false;
        }
        int bill = acts.aheadBill;
        int k = acts.doneOf(bill) - 1;
        if ((told.stepAt(bill, k).offices & people.officeOf(p)) == 0) {
            return false;
        }
        acts.setRun(bill, k, acts.aheadLast);
        acts.useOne(p);
        return true;
    }

    private boolean hasSignLeft(int p) {
        return people.officeOf(p) == SIGN && at(acts.left, p) > 0;
    }

    private boolean watchBy(int p) {
        if (!hasSignLeft(p) || acts.called || acts.watched) {
            return false;
        }
        acts.watched = true;
        acts.useOne(p);
        return true;
    }

    private boolean makeHolyBy(int p, int d) {
        if (!hasSignLeft(p) || d <= acts.today || kindNow(d) == HOLY) {
            return false;
        }
        acts.makeHoly(d);
        acts.useOne(p);
        return true;
    }

    private boolean forceOn() {
        if (acts.aheadWhat != FORBID) {
            return false;
        }
        int bill = acts.aheadBill;
        acts.setRun(bill, acts.doneOf(bill) + 1, acts.today);
        acts.voids |= 1 << bill;
        return true;
    }

    private boolean waitOn() {
        if (acts.today + 1 >= told.length) {
            return false;
        }
        acts.today++;
        acts.watched = false;
        acts.called = false;
        for (int bill = 0; bill < BILLS; bill++) {
            fallBackIfLate(bill);
        }
        return true;
    }

    private void fallBackIfLate(int bill) {
        int k = acts.doneOf(bill);
        if (k == 0 || !told.hasStep(bill, k)) {
            return;
        }
        int within = told.stepAt(bill, k).within;
        if (within != NONE && acts.today - acts.lastOf(bill) > within) {
            acts.setRun(bill, 0, NONE);
        }
    }

    private boolean isVoid(int bill) {
        return (acts.voids >> bill & 1) == 1;
    }

    private boolean isCarried(int bill) {
        int steps = told.stepsOf(bill);
        return steps > 0 && acts.doneOf(bill) == steps && !isVoid(bill);
    }

    private int carriedBills() {
        int bits = 0;
        for (int bill = 0; bill < BILLS; bill++) {
            if (isCarried(bill)) {
                bits |= 1 << bill;
            }
        }
        return bits;
    }

    // ---- days ahead
    //
    // SURE is SOON, by however many voices and signs: a BILL that is forbidden may be called again
    // on the same DAY as it was, so each forbidding uses up one of the TIMES and no DAY, and those
    // who call go on until the STEP stands. So DELAY is 0, nobody can STOP what can be CARRIED,
    // and WORDS about V and S change nothing.

    public int soon(int bill, int k) {
        if (!isBill(bill) || k < -1 || k >= told.stepsOf(bill)) {
            return BAD;
        }
        if (!isOpen(bill)) {
            return STATE;
        }
        int soonest = ahead.findSoonest(told, acts, bill);
        if (k == -1 || soonest == NONE) {
            return soonest;
        }
        return k < ahead.rowSize ? at(ahead.row, k) : BAD;
    }

    public int against(int bill) {
        if (!isBill(bill)) {
            return BAD;
        }
        return isOpen(bill) ? ahead.findFewestAgainst(told, acts, bill) : STATE;
    }

    public int sure(int bill, int v, int s) {
        if (!isBill(bill) || v < 0 || v > TOGETHER_MOST || s < 0 || s > TOGETHER_MOST) {
            return BAD;
        }
        return isOpen(bill) ? ahead.findSoonest(told, acts, bill) : STATE;
    }

    public int delay(int bill, int p) {
        if (!isBill(bill) || !people.has(p)) {
            return BAD;
        }
        return isOpen(bill) && ahead.findSoonest(told, acts, bill) != NONE ? 0 : STATE;
    }

    public int stop(int bill, int what) {
        if (!isBill(bill) || what < 0 || what > 1) {
            return BAD;
        }
        if (!isOpen(bill)) {
            return STATE;
        }
        // Where it can't be CARRIED at all, nobody is needed: no PEOPLE, the set 0.
        return ahead.findSoonest(told, acts, bill) == NONE ? 0 : NONE;
    }

    private boolean isOpen(int bill) {
        return told.stepsOf(bill) > 0 && !isCarried(bill) && !isVoid(bill);
    }

    // ---- matters, words

    public int group() {
        return matters.addGroup();
    }

    public int wish(int group, int matter, int v) {
        if (!matters.hasGroup(group) || !isMatter(matter) || v < -WISH_MOST || v > WISH_MOST) {
            return BAD_WISH;
        }
        return matters.setWish(group, matter, v);
    }

    public int passes(int set) {
        if (!isSet(set)) {
            return BAD;
        }
        return matters.doPass(set) ? 1 : 0;
    }

    public int ride(int matter, int what) {
        if (!isMatter(matter) || what < 0 || what > 1) {
            return BAD;
        }
        int others = matters.fewestToRideWith(1 << matter);
        if (others == NONE || what == 1) {
            return others;
        }
        return Integer.bitCount(others);
    }

    public int tears(int set) {
        return isSet(set) ? matters.tearsOf(set) : BAD;
    }

    public int word(int w, int what, int of, int by) {
        if (w < 0 || w >= WORDS || !isWord(what, of, by)) {
            return BAD;
        }
        int was = at(wordWhat, w);
        put(wordWhat, w, what);
        put(wordOf, w, of);
        put(wordBy, w, by);
        return was;
    }

    public int mended(int what) {
        if (what < 0 || what > 2) {
            return BAD;
        }
        for (int size = 0; size <= WORDS; size++) {
            int many = 0;
            int least = NONE;
            for (int set = (1 << WORDS) - 1; set >= 0; set--) {
                if (Integer.bitCount(set) == size && doMend(set)) {
                    many++;
                    least = set;
                }
            }
            if (many > 0) {
                return what == 0 ? size : what == 1 ? least : many;
            }
        }
        return NONE;
    }

    private static boolean isMatter(int matter) {
        return matter >= 0 && matter < MATTERS;
    }

    private static boolean isSet(int set) {
        return set >= 1 && set < 1 << MATTERS;
    }

    private static boolean isWord(int what, int of, int by) {
        if (what < 0 || what > MORE_KINDS || of < 0 || by < 0) {
            return false;
        }
        boolean isOfStep = what == LESS_AFTER || what == MORE_KINDS;
        int ofMost = isOfStep ? STEPS_MOST - 1 : 1;
        int byMost = what == MORE_KINDS ? DARK : YEAR_MOST - 1;
        return of <= ofMost && by <= byMost;
    }

    private boolean doMend(int set) {
        draft.copy(told);
        for (int w = 0; w < WORDS; w++) {
            if ((set >> w & 1) == 1) {
                rewriteDraft(w);
            }
        }
        return ahead.isSure(draft, nothingDone, 0) && !ahead.isSure(draft, nothingDone, 1);
    }

    private void rewriteDraft(int w) {
        for (int bill = 0; bill < BILLS; bill++) {
            int k = at(wordOf, w);
            if (draft.hasStep(bill, k)) {
                rewriteStep(draft.stepAt(bill, k), at(wordWhat, w), at(wordBy, w));
            }
        }
    }

    private static void rewriteStep(Step step, int what, int by) {
        if (what == LESS_AFTER) {
            step.after = Math.max(0, step.after - by);
        } else if (what == MORE_KINDS) {
            step.kinds |= 1 << by;
        }
    }

    // ---- kinds, images

    public int price(int kind, int d) {
        if (kind < KIND_ACT || kind > KIND_FORCE || !isDay(d)) {
            return BAD;
        }
        int up = priceOfAct(d);
        switch (kind) {
            case KIND_STEP: return priceOfStep(up, d);
            case KIND_FORBID: return priceOfForbid(up);
            case KIND_WATCH: return priceOfWatch(priceOfForbid(up), d);
            case KIND_HOLY: return priceOfHoly(up, d);
            case KIND_JOIN: return priceOfJoin(priceOfStep(up, d));
            case KIND_FORCE: return priceOfForce(up);
            default: return up;
        }
    }

    public int keep(int image) {
        if (!isImage(image)) {
            return BAD;
        }
        Acts picture = images[image];
        if (picture == null) {
            return BAD;
        }
        picture.copy(acts);
        picture.people = people.size;
        kept |= 1 << image;
        return acts.acts;
    }

    public int back(int image) {
        if (!isImage(image)) {
            return BAD;
        }
        Acts picture = images[image];
        if ((kept >> image & 1) == 0 || picture == null) {
            return STATE;
        }
        acts.copy(picture);
        for (int p = picture.people; p < people.size; p++) {
            put(acts.left, p, people.timesOf(p));
        }
        return acts.acts;
    }

    public int count(int what) {
        switch (what) {
            case 0: return told.length;
            case 1: return people.size;
            case 2: return matters.groups;
            case 3: return textSize;
            case 4: return leftOf(VOICE);
            case 5: return leftOf(SIGN);
            case 6: return Long.bitCount(acts.madeHoly);
            default: return BAD;
        }
    }

    public long trace() {
        return traced;
    }

    private boolean isImage(int image) {
        return image >= 0 && image < images.length;
    }

    private int leftOf(int office) {
        int sum = 0;
        for (int p = 0; p < people.size; p++) {
            if (people.officeOf(p) == office) {
                sum += at(acts.left, p);
            }
        }
        return sum;
    }

    private int priceOfAct(int d) {
        traced += 1;
        return kindNow(d) + 1;
    }

    private int priceOfStep(int up, int d) {
        traced += 10;
        int many = 0;
        for (int bill = 0; bill < BILLS; bill++) {
            for (int k = 0; k < told.stepsOf(bill); k++) {
                many += told.stepAt(bill, k).kinds >> kindNow(d) & 1;
            }
        }
        return up + many;
    }

    private int priceOfForbid(int up) {
        traced += 100;
        return 3 * up;
    }

    private int priceOfWatch(int up, int d) {
        traced += 1000;
        return up + told.length - 1 - d;
    }

    private int priceOfHoly(int up, int d) {
        traced += 10000;
        return acts.isMadeHoly(d) ? up + 5 : up;
    }

    private int priceOfJoin(int up) {
        traced += 100000;
        int many = 0;
        for (int bill = 0; bill < BILLS; bill++) {
            if (told.stepsOf(bill) > 0) {
                many++;
            }
        }
        return up * many;
    }

    private int priceOfForce(int up) {
        traced += 1000000;
        return Math.floorDiv(up, 2);
    }

    // ---- rows of numbers

    private static int at(int[] row, int i) {
        return i >= 0 && i < row.length ? row[i] : 0;
    }

    private static void put(int[] row, int i, int v) {
        if (i >= 0 && i < row.length) {
            row[i] = v;
        }
    }

    /** What one STEP wants. */
    private static final class Step {
        int kinds;
        int after;
        boolean byMarket;
        int within = NONE;
        int offices;

        void wipe() {
            kinds = 0;
            after = 0;
            byMarket = false;
            within = NONE;
            offices = 0;
        }

        void copy(Step from) {
            kinds = from.kinds;
            after = from.after;
            byMarket = from.byMarket;
            within = from.within;
            offices = from.offices;
        }
    }

    /** What a text tells: the KINDS of the year's DAYS, and the STEPS of the BILLS. */
    private static final class Law {
        int length = YEAR_FIRST;
        int items;
        int bills;
        private final int[] kinds = new int[YEAR_MOST];
        private final int[] stepCounts = new int[BILLS];
        private final Step[] steps = new Step[BILLS * STEPS_MOST];
        // Stands for every STEP that there is not: it may be done on no DAY.
        private final Step noStep = new Step();

        Law() {
            for (int i = 0; i < steps.length; i++) {
                steps[i] = new Step();
            }
        }

        void wipe() {
            length = YEAR_FIRST;
            items = 0;
            bills = 0;
            Arrays.fill(kinds, FREE);
            Arrays.fill(stepCounts, 0);
        }

        void copy(Law from) {
            length = from.length;
            items = from.items;
            bills = from.bills;
            System.arraycopy(from.kinds, 0, kinds, 0, YEAR_MOST);
            System.arraycopy(from.stepCounts, 0, stepCounts, 0, BILLS);
            for (int bill = 0; bill < BILLS; bill++) {
                for (int k = 0; k < stepsOf(bill); k++) {
                    stepAt(bill, k).copy(from.stepAt(bill, k));
                }
            }
        }

        int kindOf(int d) {
            return at(kinds, d);
        }

        void setKind(int d, int kind) {
            put(kinds, d, kind);
        }

        int stepsOf(int bill) {
            return at(stepCounts, bill);
        }

        boolean hasStep(int bill, int k) {
            return k >= 0 && k < at(stepCounts, bill);
        }

        Step stepAt(int bill, int k) {
            int place = bill * STEPS_MOST + k;
            boolean isTold = k >= 0 && k < at(stepCounts, bill);
            if (!isTold || place < 0 || place >= steps.length) {
                return noStep;
            }
            Step step = steps[place];
            return step == null ? noStep : step;
        }

        /** A STEP of the BILL that began last. */
        Step addStep() {
            int bill = bills - 1;
            int k = stepsOf(bill);
            put(stepCounts, bill, k + 1);
            Step step = stepAt(bill, k);
            step.wipe();
            return step;
        }
    }

    /** Reads a text, TOKEN by TOKEN, into a law. */
    private static final class LawReader {
        private static final int END = 0, LETTERS = 1, NUMBER = 2, MARK = 3, WRONG = 4;

        private final byte[] text;
        private int size;
        private Law law;
        private int sort;
        private int start;
        private int behind;
        private int number;
        private int fault;

        LawReader(byte[] from, Law first) {
            text = from;
            law = first;
        }

        /** FAULT, or NONE. */
        int read(int many, Law into) {
            size = Math.min(many, text.length);
            law = into;
            law.wipe();
            behind = 0;
            fault = NONE;
            advance();
            for (int i = 0; i < TEXT_MOST && sort != END; i++) {
                boolean isItem;
                if (isName("year")) {
                    isItem = isYear();
                } else if (isName("every")) {
                    isItem = isEvery();
                } else if (isName("days")) {
                    isItem = isDays();
                } else if (isName("bill")) {
                    isItem = isBillItem();
                } else {
                    isItem = isName("step") ? isStep() : refuse();
                }
                if (!isItem) {
                    return fault;
                }
                law.items++;
            }
            return NONE;
        }

        private int byteAt(int i) {
            return i >= 0 && i < size && i < text.length ? text[i] & 255 : NONE;
        }

        private static boolean isLetter(int c) {
            return c >= 'a' && c <= 'z';
        }

        private static boolean isDigit(int c) {
            return c >= '0' && c <= '9';
        }

        private void advance() {
            start = behind;
            while (start < size && byteAt(start) == ' ') {
                start++;
            }
            behind = start + 1;
            int first = byteAt(start);
            if (start >= size) {
                sort = END;
                behind = size;
            } else if (first == ';') {
                sort = MARK;
            } else if (isLetter(first)) {
                advanceLetters();
            } else if (isDigit(first)) {
                advanceNumber();
            } else {
                sort = WRONG;
            }
        }

        private void advanceLetters() {
            while (behind < size && isLetter(byteAt(behind))) {
                behind++;
            }
            sort = LETTERS;
        }

        private void advanceNumber() {
            while (behind < size && isDigit(byteAt(behind))) {
                behind++;
            }
            int first = byteAt(start) - '0';
            int digits = behind - start;
            boolean isWell = digits == 1 || digits == 2 && first != 0;
            sort = isWell ? NUMBER : WRONG;
            number = digits == 1 ? first : first * 10 + byteAt(start + 1) - '0';
        }

        private boolean refuse() {
            fault = start;
            return false;
        }

        private boolean isName(String name) {
            if (sort != LETTERS || behind - start != name.length()) {
                return false;
            }
            for (int i = 0; i < name.length(); i++) {
                if (byteAt(start + i) != name.charAt(i)) {
                    return false;
                }
            }
            return true;
        }

        private boolean perhapsTake(String name) {
            boolean isIt = isName(name);
            if (isIt) {
                advance();
            }
            return isIt;
        }

        private boolean take(String name) {
            if (!isName(name)) {
                return refuse();
            }
            advance();
            return true;
        }

        /** The NUMBER, or NONE. */
        private int takeNumber(int least, int most) {
            if (sort != NUMBER || number < least || number > most) {
                refuse();
                return NONE;
            }
            int taken = number;
            advance();
            return taken;
        }

        /** The KIND that stands here, or NONE. */
        private int kindHere() {
            if (isName("free")) {
                return FREE;
            }
            if (isName("market")) {
                return MARKET;
            }
            if (isName("holy")) {
                return HOLY;
            }
            return isName("dark") ? DARK : NONE;
        }

        private int takeKind() {
            int kind = kindHere();
            if (kind == NONE) {
                refuse();
            } else {
                advance();
            }
            return kind;
        }

        private boolean takeMark() {
            if (sort != MARK) {
                return refuse();
            }
            advance();
            return true;
        }

        private boolean isYear() {
            if (law.items > 0) {
                return refuse();
            }
            advance();
            int n = takeNumber(YEAR_LEAST, YEAR_MOST);
            if (n == NONE) {
                return false;
            }
            law.length = n;
            return takeMark();
        }

        private boolean isEvery() {
            advance();
            int by = takeNumber(1, YEAR_MOST);
            if (by == NONE || !take("from")) {
                return false;
            }
            int from = takeNumber(0, YEAR_MOST - 1);
            int kind = from == NONE ? NONE : takeKind();
            if (kind == NONE) {
                return false;
            }
            for (int i = 0; i < YEAR_MOST && from + i * by < YEAR_MOST; i++) {
                law.setKind(from + i * by, kind);
            }
            return takeMark();
        }

        private boolean isDays() {
            advance();
            int from = takeNumber(0, YEAR_MOST - 1);
            int to = from == NONE ? NONE : takeNumber(from, YEAR_MOST - 1);
            int kind = to == NONE ? NONE : takeKind();
            if (kind == NONE) {
                return false;
            }
            for (int d = from; d <= to && d < YEAR_MOST; d++) {
                law.setKind(d, kind);
            }
            return takeMark();
        }

        private boolean isBillItem() {
            if (law.bills >= BILLS) {
                return refuse();
            }
            advance();
            law.bills++;
            return takeMark();
        }

        private boolean isStep() {
            if (law.bills == 0 || law.stepsOf(law.bills - 1) >= STEPS_MOST) {
                return refuse();
            }
            advance();
            Step step = law.addStep();
            if (!areKinds(step) || !take("after")) {
                return false;
            }
            step.after = takeNumber(0, YEAR_MOST - 1);
            if (step.after == NONE) {
                return false;
            }
            step.byMarket = perhapsTake("market");
            if (perhapsTake("within")) {
                step.within = takeNumber(1, YEAR_MOST);
                if (step.within == NONE) {
                    return false;
                }
            }
            step.offices = perhapsTake("voice") ? VOICE : 0;
            step.offices |= perhapsTake("sign") ? SIGN : 0;
            return takeMark();
        }

        private boolean areKinds(Step step) {
            for (int i = 0; i <= DARK && kindHere() != NONE; i++) {
                int bit = 1 << kindHere();
                if ((step.kinds & bit) != 0) {
                    return refuse();
                }
                step.kinds |= bit;
                advance();
            }
            return step.kinds != 0 || refuse();
        }
    }

    /** Who may forbid, and how often as told. */
    private static final class People {
        int size;
        private final int[] offices = new int[PEOPLE_MOST];
        private final int[] times = new int[PEOPLE_MOST];

        boolean has(int p) {
            return p >= 0 && p < size;
        }

        int officeOf(int p) {
            return at(offices, p);
        }

        int timesOf(int p) {
            return at(times, p);
        }

        boolean hasRoom(int office, int more) {
            if (size >= PEOPLE_MOST) {
                return false;
            }
            if (office == 0) {
                return true;
            }
            int sum = more;
            for (int p = 0; p < size; p++) {
                if (officeOf(p) == office) {
                    sum += timesOf(p);
                }
            }
            return sum <= TOGETHER_MOST;
        }

        int add(int office, int often) {
            int p = size;
            put(offices, p, office);
            put(times, p, often);
            size++;
            return p;
        }
    }

    /** All that ACTS change; an IMAGE is one of these, too. */
    private static final class Acts {
        int today;
        int acts;
        int slips;
        int firstSlip = NONE;
        boolean watched;
        // By bits, the DAYS.
        long madeHoly;
        // A lawful CALL was today, even if it was forbidden.
        boolean called;
        int voids;
        // The ACT ahead if it was lawful; of a CALL or a FORBID its BILL,
        // and the DAY of its last STEP ahead of that CALL.
        int aheadWhat = NONE;
        int aheadBill;
        int aheadLast = NONE;
        // How many PEOPLE there were when an IMAGE was kept.
        int people;
        final int[] left = new int[PEOPLE_MOST];
        private final int[] done = new int[BILLS];
        private final int[] last = new int[BILLS];

        Acts() {
            Arrays.fill(last, NONE);
        }

        void begin(People all) {
            today = 0;
            acts = 0;
            slips = 0;
            firstSlip = NONE;
            watched = false;
            called = false;
            voids = 0;
            aheadWhat = NONE;
            madeHoly = 0;
            Arrays.fill(done, 0);
            Arrays.fill(last, NONE);
            for (int p = 0; p < PEOPLE_MOST; p++) {
                put(left, p, all.timesOf(p));
            }
        }

        void copy(Acts from) {
            today = from.today;
            acts = from.acts;
            slips = from.slips;
            firstSlip = from.firstSlip;
            watched = from.watched;
            called = from.called;
            voids = from.voids;
            aheadWhat = from.aheadWhat;
            aheadBill = from.aheadBill;
            aheadLast = from.aheadLast;
            madeHoly = from.madeHoly;
            System.arraycopy(from.left, 0, left, 0, PEOPLE_MOST);
            System.arraycopy(from.done, 0, done, 0, BILLS);
            System.arraycopy(from.last, 0, last, 0, BILLS);
        }

        void slip() {
            if (slips == 0) {
                firstSlip = acts;
            }
            slips++;
        }

        int doneOf(int bill) {
            return at(done, bill);
        }

        int lastOf(int bill) {
            return at(last, bill);
        }

        void setRun(int bill, int steps, int lastDay) {
            put(done, bill, steps);
            put(last, bill, lastDay);
        }

        void useOne(int p) {
            put(left, p, at(left, p) - 1);
        }

        boolean isMadeHoly(int d) {
            return (madeHoly >> d & 1) == 1;
        }

        void makeHoly(int d) {
            madeHoly |= 1L << d;
        }
    }

    /** What can still be done of a BILL from TODAY on, by the DAYS as they are. */
    private static final class DaysAhead {
        private static final int NEVER = 1000;

        // The row of DAYS that findSoonest found.
        final int[] row = new int[STEPS_MOST];
        int rowSize;

        private Law law;
        private int bill;
        private boolean counting;
        private final int[] kinds = new int[YEAR_MOST];
        // Markets ahead of each DAY.
        private final int[] markets = new int[YEAR_MOST + 1];
        // By STEP and DAY, that STEP being done on it: the soonest DAY of the last STEP (or, when
        // counting, the fewest STEPS against the KINDS from this one on), without falling back.
        private final int[] rest = new int[STEPS_MOST * YEAR_MOST];
        // The same the other way: what the STEPS up to this one take at least.
        private final int[] spent = new int[STEPS_MOST * YEAR_MOST];
        // The soonest DAY on which the run that was begun can have fallen back.
        private int fallDay;

        DaysAhead(Law first) {
            law = first;
        }

        void see(Law by, Acts since) {
            law = by;
            for (int d = 0; d < YEAR_MOST; d++) {
                int kind = since.isMadeHoly(d) ? HOLY : by.kindOf(d);
                put(kinds, d, kind);
                put(markets, d + 1, at(markets, d) + (kind == MARKET ? 1 : 0));
            }
        }

        boolean isOfItsKinds(Step step, int d) {
            return (step.kinds >> at(kinds, d) & 1) == 1;
        }

        /** Whether a DAY is well for a STEP but for its KIND; from NONE: the first STEP's are. */
        boolean isFarEnough(Step step, int from, int d) {
            if (from == NONE) {
                return true;
            }
            int gone = d - from;
            int far = step.byMarket ? at(markets, d + 1) - at(markets, from + 1) : gone;
            return gone >= 0 && far >= step.after && (step.within == NONE || gone <= step.within);
        }

        int findSoonest(Law by, Acts since, int of) {
            counting = false;
            fillRest(by, since, of);
            int done = since.doneOf(of);
            int last = since.lastOf(of);
            int first = firstDay(since);
            int straight = leastRest(done, last, first);
            int fallen = done == 0 ? NEVER : leastFallen(done, last, first);
            rowSize = 0;
            if (straight >= NEVER && fallen >= NEVER) {
                return NONE;
            }
            if (straight <= fallen) {
                fillRow(done, last, first, straight);
                return straight;
            }
            fillRow(0, NONE, fallDay, fallen);
            return fallen;
        }

        /** Whether it can be CARRIED from DAY 0 on, nothing done; without STEPS it is at once. */
        boolean isSure(Law by, Acts nothing, int of) {
            counting = false;
            fillRest(by, nothing, of);
            return by.stepsOf(of) == 0 || leastRest(0, NONE, 0) < NEVER;
        }

        int findFewestAgainst(Law by, Acts since, int of) {
            counting = true;
            fillRest(by, since, of);
            int done = since.doneOf(of);
            int last = since.lastOf(of);
            int first = firstDay(since);
            int fewest = leastRest(done, last, first);
            if (done > 0) {
                fewest = Math.min(fewest, leastFallen(done, last, first));
            }
            return fewest >= NEVER ? NONE : fewest;
        }

        private static int firstDay(Acts since) {
            return since.watched ? since.today + 1 : since.today;
        }

        private static int place(int k, int d) {
            return k * YEAR_MOST + d;
        }

        private int costOn(Step step, int d) {
            if (isOfItsKinds(step, d)) {
                return 0;
            }
            return counting ? 1 : NEVER;
        }

        private void fillRest(Law by, Acts since, int of) {
            see(by, since);
            bill = of;
            int end = law.stepsOf(bill) - 1;
            for (int k = end; k >= 0; k--) {
                Step step = law.stepAt(bill, k);
                for (int d = 0; d < law.length; d++) {
                    int least = costOn(step, d);
                    if (least < NEVER) {
                        least += k < end ? leastRest(k + 1, d, d) : counting ? 0 : d;
                    }
                    put(rest, place(k, d), Math.min(NEVER, least));
                }
            }
        }

        /** The least of the rest, if a STEP is done on a DAY not ahead of first. */
        private int leastRest(int k, int from, int first) {
            Step step = law.stepAt(bill, k);
            int least = NEVER;
            for (int d = first; d < law.length; d++) {
                int there = at(rest, place(k, d));
                if (there < least && isFarEnough(step, from, d)) {
                    least = there;
                }
            }
            return least;
        }

        /** The least, if the run that was begun falls back, now or after some STEPS more. */
        private int leastFallen(int done, int last, int first) {
            fillSpent(done, last, first);
            fallDay = NEVER;
            int least = leastFromFall(done, last, 0);
            int end = law.stepsOf(bill) - 1;
            for (int k = done; k < end; k++) {
                for (int d = first; d < law.length; d++) {
                    least = Math.min(least, leastFromFall(k + 1, d, at(spent, place(k, d))));
                }
            }
            return least;
        }

        /** The least, if the run falls back for want of a STEP, the one ahead being on a DAY. */
        private int leastFromFall(int wanted, int last, int soFar) {
            int within = law.stepAt(bill, wanted).within;
            if (within == NONE || soFar >= NEVER) {
                return NEVER;
            }
            int fall = last + within + 1;
            fallDay = Math.min(fallDay, fall);
            return Math.min(NEVER, soFar + leastRest(0, NONE, fall));
        }

        private void fillSpent(int done, int last, int first) {
            for (int k = done; k < law.stepsOf(bill); k++) {
                Step step = law.stepAt(bill, k);
                for (int d = first; d < law.length; d++) {
                    int least = costOn(step, d);
                    if (least < NEVER) {
                        least += k > done ? leastSpent(k, first, d)
                            : isFarEnough(step, last, d) ? 0 : NEVER;
                    }
                    put(spent, place(k, d), Math.min(NEVER, least));
                }
            }
        }

        private int leastSpent(int k, int first, int d) {
            Step step = law.stepAt(bill, k);
            int least = NEVER;
            for (int from = first; from <= d; from++) {
                int there = at(spent, place(k - 1, from));
                if (there < least && isFarEnough(step, from, d)) {
                    least = there;
                }
            }
            return least;
        }

        /** The soonest DAYS by which the last STEP is on a DAY. */
        private void fillRow(int done, int last, int first, int end) {
            int from = last;
            int next = first;
            for (int k = done; k < law.stepsOf(bill); k++) {
                Step step = law.stepAt(bill, k);
                while (next < law.length
                    && (at(rest, place(k, next)) != end || !isFarEnough(step, from, next))) {
                    next++;
                }
                put(row, rowSize, next);
                rowSize++;
                from = next;
            }
        }
    }

    /** What the GROUPS wish of the MATTERS. */
    private static final class Matters {
        int groups;
        private final int[] wishes = new int[GROUPS_MOST * MATTERS];

        int addGroup() {
            if (groups >= GROUPS_MOST) {
                return FULL;
            }
            int g = groups;
            groups++;
            return g;
        }

        boolean hasGroup(int g) {
            return g >= 0 && g < groups;
        }

        int setWish(int g, int matter, int v) {
            int place = g * MATTERS + matter;
            int was = at(wishes, place);
            put(wishes, place, v);
            return was;
        }

        boolean doPass(int set) {
            int more = 0;
            for (int g = 0; g < groups; g++) {
                int sum = sumOf(g, set);
                if (sum > 0) {
                    more++;
                } else if (sum < 0) {
                    more--;
                }
            }
            return more > 0;
        }

        private int sumOf(int g, int set) {
            int sum = 0;
            for (int m = 0; m < MATTERS; m++) {
                if ((set >> m & 1) == 1) {
                    sum += at(wishes, g * MATTERS + m);
                }
            }
            return sum;
        }

        /** The set of others, or NONE. */
        int fewestToRideWith(int own) {
            int best = NONE;
            for (int others = 0; others < 1 << MATTERS; others++) {
                boolean isFewer = best == NONE || Integer.bitCount(others) < Integer.bitCount(best);
                if ((others & own) == 0 && isFewer && doPass(others | own)) {
                    best = others;
                }
            }
            return best;
        }

        int tearsOf(int set) {
            if (!doPass(set)) {
                return 0;
            }
            int many = 0;
            for (int m = 0; m < MATTERS; m++) {
                if ((set >> m & 1) == 1 && !doPass(1 << m)) {
                    many++;
                }
            }
            return many;
        }
    }
}
