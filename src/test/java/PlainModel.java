import java.util.ArrayList;
import java.util.HashMap;
import java.util.List;
import java.util.Map;
import java.util.regex.Matcher;
import java.util.regex.Pattern;

/**
 * The document said once more, as slowly and plainly as it can be: SURE by the whole game, SOON by
 * trying every row, AGAINST by trying every way. It is what random runs are compared with.
 */
final class PlainModel {
    static final int BAD = -1, STATE = -2, FULL = -3, NONE = -9;
    private static final int NEVER = 100000;
    private static final List<String> KINDS = List.of("free", "market", "holy", "dark");

    static final class Step {
        int kinds, g, w = NONE, who;
        boolean market;

        Step copy() {
            Step s = new Step();
            s.kinds = kinds;
            s.g = g;
            s.w = w;
            s.who = who;
            s.market = market;
            return s;
        }
    }

    static final class Law {
        int n = 30, items;
        int[] kind = new int[60];
        List<List<Step>> begun = new ArrayList<>();

        List<Step> bill(int b) {
            return b < begun.size() ? begun.get(b) : List.of();
        }
    }

    static final class Fault extends RuntimeException {
        final int place;

        Fault(int place) {
            this.place = place;
        }
    }

    /** All that acts change. */
    static final class Acts {
        int today, acts, slips, first = NONE;
        boolean watched, called;
        boolean[] holy = new boolean[60];
        int[] done = new int[2];
        int[] last = {NONE, NONE};
        boolean[] isVoid = new boolean[2];
        List<Integer> left = new ArrayList<>();
        String ahead = "";
        int aheadBill, beforeDone, beforeLast;

        Acts copy() {
            Acts a = new Acts();
            a.today = today;
            a.acts = acts;
            a.slips = slips;
            a.first = first;
            a.watched = watched;
            a.called = called;
            a.holy = holy.clone();
            a.done = done.clone();
            a.last = last.clone();
            a.isVoid = isVoid.clone();
            a.left = new ArrayList<>(left);
            a.ahead = ahead;
            a.aheadBill = aheadBill;
            a.beforeDone = beforeDone;
            a.beforeLast = beforeLast;
            return a;
        }
    }

    private final List<Integer> text = new ArrayList<>();
    private Law law = new Law();
    private Acts acts = new Acts();
    private final Acts[] images = new Acts[2];
    private final List<int[]> people = new ArrayList<>();
    private final List<int[]> groups = new ArrayList<>();
    private final int[][] words = new int[5][3];
    private long traced = 0;

    // ---- laws

    int type(long v, int n) {
        if (n < 1 || n > 8) {
            return BAD;
        }
        if (text.size() + n > 400) {
            return FULL;
        }
        for (int i = n - 1; i >= 0; i--) {
            text.add((int) (v >>> 8 * i & 255));
        }
        return text.size();
    }

    int clear() {
        int had = text.size();
        text.clear();
        return had;
    }

    int law() {
        StringBuilder sb = new StringBuilder();
        for (int c : text) {
            sb.append((char) c);
        }
        Law read;
        try {
            read = parse(sb.toString());
        } catch (Fault f) {
            return -10 - f.place;
        }
        law = read;
        text.clear();
        acts = new Acts();
        for (int[] p : people) {
            acts.left.add(p[1]);
        }
        images[0] = null;
        images[1] = null;
        return law.items;
    }

    private List<String> tokens;
    private List<Integer> places;
    private int next;

    private Law parse(String s) {
        tokens = new ArrayList<>();
        places = new ArrayList<>();
        Matcher m = Pattern.compile("[a-z]+|[0-9]+|[^ ]", Pattern.DOTALL).matcher(s);
        while (m.find()) {
            tokens.add(m.group());
            places.add(m.start());
        }
        places.add(s.length());
        next = 0;
        Law l = new Law();
        while (next < tokens.size()) {
            switch (peek()) {
                case "year" -> {
                    need(l.items == 0);
                    next++;
                    l.n = number(10, 60);
                }
                case "every" -> {
                    next++;
                    int k = number(1, 60);
                    word("from");
                    int f = number(0, 59);
                    int kind = kind();
                    for (int d = f; d < 60; d += k) {
                        l.kind[d] = kind;
                    }
                }
                case "days" -> {
                    next++;
                    int d = number(0, 59);
                    int e = number(d, 59);
                    int kind = kind();
                    for (int i = d; i <= e; i++) {
                        l.kind[i] = kind;
                    }
                }
                case "bill" -> {
                    need(l.begun.size() < 2);
                    next++;
                    l.begun.add(new ArrayList<>());
                }
                case "step" -> {
                    need(!l.begun.isEmpty());
                    List<Step> steps = l.begun.get(l.begun.size() - 1);
                    need(steps.size() < 4);
                    next++;
                    steps.add(step());
                }
                default -> need(false);
            }
            word(";");
            l.items++;
        }
        return l;
    }

    private Step step() {
        Step s = new Step();
        s.kinds |= 1 << kind();
        while (KINDS.contains(peek())) {
            int bit = 1 << KINDS.indexOf(peek());
            need((s.kinds & bit) == 0);
            s.kinds |= bit;
            next++;
        }
        word("after");
        s.g = number(0, 59);
        s.market = perhaps("market");
        if (perhaps("within")) {
            s.w = number(1, 60);
        }
        s.who = perhaps("voice") ? 1 : 0;
        s.who += perhaps("sign") ? 2 : 0;
        return s;
    }

    private String peek() {
        return next < tokens.size() ? tokens.get(next) : "";
    }

    private void need(boolean well) {
        if (!well) {
            throw new Fault(places.get(next));
        }
    }

    private boolean perhaps(String w) {
        if (!peek().equals(w)) {
            return false;
        }
        next++;
        return true;
    }

    private void word(String w) {
        need(peek().equals(w));
        next++;
    }

    private int number(int from, int to) {
        String t = peek();
        need(t.matches("0|[1-9][0-9]?"));
        int v = Integer.parseInt(t);
        need(v >= from && v <= to);
        next++;
        return v;
    }

    private int kind() {
        need(KINDS.contains(peek()));
        return KINDS.indexOf(tokens.get(next++));
    }

    private boolean isDay(int d) {
        return d >= 0 && d < law.n;
    }

    private int kindNow(int d) {
        return acts.holy[d] ? 2 : law.kind[d];
    }

    int day(int d) {
        return isDay(d) ? kindNow(d) : BAD;
    }

    int days(int kind, int from, int to) {
        if (kind < 0 || kind > 3 || !isDay(from) || !isDay(to)) {
            return BAD;
        }
        int many = 0;
        for (int d = from; d <= to; d++) {
            many += kindNow(d) == kind ? 1 : 0;
        }
        return many;
    }

    int step(int b, int k, int what) {
        if (noStep(b, k) || what < 0 || what > 4) {
            return BAD;
        }
        Step s = law.bill(b).get(k);
        return new int[] {s.kinds, s.g, s.market ? 1 : 0, s.w, s.who}[what];
    }

    private boolean noStep(int b, int k) {
        return b < 0 || b > 1 || k < 0 || k >= law.bill(b).size();
    }

    int may(int b, int k, int ahead, int d) {
        if (noStep(b, k) || ahead != NONE && !isDay(ahead) || !isDay(d)) {
            return BAD;
        }
        Step s = law.bill(b).get(k);
        boolean may = onKind(s, d) && (k == 0 || ahead == NONE || farEnough(s, ahead, d));
        return may ? 1 : 0;
    }

    private boolean onKind(Step s, int d) {
        return (s.kinds & 1 << kindNow(d)) != 0;
    }

    private boolean farEnough(Step s, int ahead, int d) {
        if (d < ahead) {
            return false;
        }
        int far = 0;
        for (int i = ahead + 1; i <= d; i++) {
            far += !s.market || kindNow(i) == 1 ? 1 : 0;
        }
        return far >= s.g && (s.w == NONE || d - ahead <= s.w);
    }

    // ---- people, acts

    int person(int office, int times) {
        if (office < 0 || office > 2 || times < 0 || times > 3) {
            return BAD;
        }
        int sum = times;
        for (int[] p : people) {
            sum += p[0] == office ? p[1] : 0;
        }
        if (people.size() == 8 || office > 0 && sum > 6) {
            return FULL;
        }
        people.add(new int[] {office, times});
        acts.left.add(times);
        return people.size() - 1;
    }

    int who(int p, int what) {
        if (p < 0 || p >= people.size() || what < 0 || what > 2) {
            return BAD;
        }
        return what == 2 ? acts.left.get(p) : people.get(p)[what];
    }

    int act(int what, int p, int of) {
        if (what < 0 || what > 5 || p < 0 || p >= people.size()) {
            return BAD;
        }
        if (what == 0 ? of < 0 || of > 1 : what == 3 ? !isDay(of) : of != 0) {
            return BAD;
        }
        boolean lawful = lawful(what, p, of);
        if (lawful) {
            carryOut(what, p, of);
        } else {
            acts.first = acts.slips == 0 ? acts.acts : acts.first;
            acts.slips++;
        }
        acts.ahead = !lawful ? "" : what == 0 ? "call" : what == 1 ? "forbid" : "other";
        acts.acts++;
        return lawful ? 1 : 0;
    }

    private boolean lawful(int what, int p, int of) {
        int office = people.get(p)[0];
        boolean hasTimes = acts.left.get(p) > 0;
        switch (what) {
            case 0: {
                int k = acts.done[of];
                return k < law.bill(of).size() && !acts.watched
                    && may(of, k, acts.last[of], acts.today) == 1;
            }
            case 1: {
                if (!acts.ahead.equals("call") || !hasTimes) {
                    return false;
                }
                Step s = law.bill(acts.aheadBill).get(acts.beforeDone);
                return office == 1 && (s.who & 1) != 0 || office == 2 && (s.who & 2) != 0;
            }
            case 2: return office == 2 && hasTimes && !acts.called && !acts.watched;
            case 3: return office == 2 && hasTimes && of > acts.today && kindNow(of) != 2;
            case 4: return acts.ahead.equals("forbid");
            default: return acts.today + 1 < law.n;
        }
    }

    private void carryOut(int what, int p, int of) {
        if (what == 1 || what == 2 || what == 3) {
            acts.left.set(p, acts.left.get(p) - 1);
        }
        switch (what) {
            case 0 -> {
                acts.aheadBill = of;
                acts.beforeDone = acts.done[of];
                acts.beforeLast = acts.last[of];
                acts.done[of]++;
                acts.last[of] = acts.today;
                acts.called = true;
            }
            case 1 -> {
                acts.done[acts.aheadBill] = acts.beforeDone;
                acts.last[acts.aheadBill] = acts.beforeLast;
            }
            case 2 -> acts.watched = true;
            case 3 -> acts.holy[of] = true;
            case 4 -> {
                acts.done[acts.aheadBill] = acts.beforeDone + 1;
                acts.last[acts.aheadBill] = acts.today;
                acts.isVoid[acts.aheadBill] = true;
            }
            default -> {
                acts.today++;
                acts.watched = false;
                acts.called = false;
                for (int b = 0; b < 2; b++) {
                    if (hasFallen(law.bill(b), acts.done[b], acts.last[b], acts.today)) {
                        acts.done[b] = 0;
                        acts.last[b] = NONE;
                    }
                }
            }
        }
    }

    private static boolean hasFallen(List<Step> steps, int done, int last, int d) {
        if (done == 0 || done == steps.size()) {
            return false;
        }
        int w = steps.get(done).w;
        return w != NONE && d - last > w;
    }

    private boolean isCarried(int b) {
        return !law.bill(b).isEmpty() && acts.done[b] == law.bill(b).size() && !acts.isVoid[b];
    }

    int now(int what) {
        if (what < 0 || what > 6) {
            return BAD;
        }
        return new int[] {acts.today, acts.acts, acts.slips, acts.first, acts.watched ? 1 : 0,
            (isCarried(0) ? 1 : 0) + (isCarried(1) ? 2 : 0),
            (acts.isVoid[0] ? 1 : 0) + (acts.isVoid[1] ? 2 : 0)}[what];
    }

    int bill(int b, int what) {
        if (b < 0 || b > 1 || what < 0 || what > 2) {
            return BAD;
        }
        return new int[] {law.bill(b).size(), acts.done[b], acts.last[b]}[what];
    }

    // ---- days ahead

    private final Map<Long, Integer> memo = new HashMap<>();
    private List<Step> steps;
    private boolean isWatchedGame;
    private int gameToday;

    private boolean isOpen(int b) {
        return !law.bill(b).isEmpty() && !isCarried(b) && !acts.isVoid[b];
    }

    private int game(int b, int v, int s) {
        steps = law.bill(b);
        gameToday = acts.today;
        isWatchedGame = acts.watched;
        memo.clear();
        int r = play(acts.today, acts.done[b], acts.last[b], v, s);
        return r == NEVER ? NONE : r;
    }

    /** The soonest day by which it is carried, at the worst. */
    private int play(int d, int k, int last, int v, int s) {
        if (k == steps.size()) {
            return last;
        }
        if (d == law.n) {
            return NEVER;
        }
        if (hasFallen(steps, k, last, d)) {
            return play(d, 0, NONE, v, s);
        }
        long key = (((d * 5L + k) * 70 + last + 9) * 7 + v) * 7 + s;
        Integer known = memo.get(key);
        if (known != null) {
            return known;
        }
        int best = play(d + 1, k, last, v, s);
        Step step = steps.get(k);
        boolean may = onKind(step, d) && (k == 0 || farEnough(step, last, d))
            && !(isWatchedGame && d == gameToday);
        if (may) {
            int worst = play(d, k + 1, d, v, s);
            if (v > 0 && (step.who & 1) != 0) {
                worst = Math.max(worst, play(d, k, last, v - 1, s));
            }
            if (s > 0 && (step.who & 2) != 0) {
                worst = Math.max(worst, play(d, k, last, v, s - 1));
            }
            best = Math.min(best, worst);
        }
        memo.put(key, best);
        return best;
    }

    private List<Integer> soonRow(int b, int soonest) {
        int first = acts.watched ? acts.today + 1 : acts.today;
        steps = law.bill(b);
        List<Integer> row = new ArrayList<>();
        if (rowFrom(acts.done[b], acts.last[b], first, soonest, row)) {
            return row;
        }
        int fall = soonestFall(acts.today, acts.done[b], acts.last[b]);
        if (fall == NEVER || !rowFrom(0, NONE, fall, soonest, row)) {
            throw new IllegalStateException("no row");
        }
        return row;
    }

    private boolean rowFrom(int k, int last, int from, int end, List<Integer> row) {
        if (k == steps.size()) {
            return last == end;
        }
        Step s = steps.get(k);
        for (int d = from; d <= end; d++) {
            if (onKind(s, d) && (k == 0 || farEnough(s, last, d))) {
                row.add(d);
                if (rowFrom(k + 1, d, d, end, row)) {
                    return true;
                }
                row.remove(row.size() - 1);
            }
        }
        return false;
    }

    private int soonestFall(int d, int k, int last) {
        if (d == law.n || k == steps.size()) {
            return NEVER;
        }
        if (hasFallen(steps, k, last, d)) {
            return d;
        }
        int best = soonestFall(d + 1, k, last);
        Step s = steps.get(k);
        if (onKind(s, d) && (k == 0 || farEnough(s, last, d))
            && !(acts.watched && d == acts.today)) {
            best = Math.min(best, soonestFall(d, k + 1, d));
        }
        return best;
    }

    int soon(int b, int k) {
        if (b < 0 || b > 1 || k < -1 || k >= law.bill(b).size()) {
            return BAD;
        }
        if (!isOpen(b)) {
            return STATE;
        }
        int soonest = game(b, 0, 0);
        if (k == -1 || soonest == NONE) {
            return soonest;
        }
        List<Integer> row = soonRow(b, soonest);
        return k < row.size() ? row.get(k) : BAD;
    }

    int against(int b) {
        if (b < 0 || b > 1) {
            return BAD;
        }
        if (!isOpen(b)) {
            return STATE;
        }
        steps = law.bill(b);
        memo.clear();
        int r = fewest(acts.today, acts.done[b], acts.last[b]);
        return r >= NEVER ? NONE : r;
    }

    private int fewest(int d, int k, int last) {
        if (k == steps.size()) {
            return 0;
        }
        if (d == law.n) {
            return NEVER;
        }
        if (hasFallen(steps, k, last, d)) {
            return fewest(d, 0, NONE);
        }
        long key = (d * 5L + k) * 70 + last + 9;
        Integer known = memo.get(key);
        if (known != null) {
            return known;
        }
        int best = fewest(d + 1, k, last);
        Step s = steps.get(k);
        if ((k == 0 || farEnough(s, last, d)) && !(acts.watched && d == acts.today)) {
            best = Math.min(best, fewest(d, k + 1, d) + (onKind(s, d) ? 0 : 1));
        }
        memo.put(key, best);
        return best;
    }

    int sure(int b, int v, int s) {
        if (b < 0 || b > 1 || v < 0 || v > 6 || s < 0 || s > 6) {
            return BAD;
        }
        return isOpen(b) ? game(b, v, s) : STATE;
    }

    int delay(int b, int p) {
        if (b < 0 || b > 1 || p < 0 || p >= people.size()) {
            return BAD;
        }
        if (!isOpen(b) || game(b, 0, 0) == NONE) {
            return STATE;
        }
        int office = people.get(p)[0];
        int left = acts.left.get(p);
        int sure = game(b, office == 1 ? left : 0, office == 2 ? left : 0);
        return sure == NONE ? NONE : sure - game(b, 0, 0);
    }

    int stop(int b, int what) {
        if (b < 0 || b > 1 || what < 0 || what > 1) {
            return BAD;
        }
        if (!isOpen(b)) {
            return STATE;
        }
        int best = -1;
        for (int set = 0; set < 1 << people.size(); set++) {
            int[] sum = new int[3];
            for (int p = 0; p < people.size(); p++) {
                sum[people.get(p)[0]] += (set >> p & 1) * acts.left.get(p);
            }
            boolean fewer = best < 0 || Integer.bitCount(set) < Integer.bitCount(best);
            if (fewer && game(b, sum[1], sum[2]) == NONE) {
                best = set;
            }
        }
        return best < 0 ? NONE : what == 0 ? Integer.bitCount(best) : best;
    }

    // ---- matters, words

    int group() {
        if (groups.size() == 9) {
            return FULL;
        }
        groups.add(new int[6]);
        return groups.size() - 1;
    }

    int wish(int g, int m, int v) {
        if (g < 0 || g >= groups.size() || m < 0 || m > 5 || v < -9 || v > 9) {
            return -100;
        }
        int was = groups.get(g)[m];
        groups.get(g)[m] = v;
        return was;
    }

    private boolean pass(int set) {
        int yes = 0;
        int no = 0;
        for (int[] g : groups) {
            int sum = 0;
            for (int m = 0; m < 6; m++) {
                sum += (set >> m & 1) * g[m];
            }
            yes += sum > 0 ? 1 : 0;
            no += sum < 0 ? 1 : 0;
        }
        return yes > no;
    }

    int passes(int set) {
        return set < 1 || set > 63 ? BAD : pass(set) ? 1 : 0;
    }

    int ride(int m, int what) {
        if (m < 0 || m > 5 || what < 0 || what > 1) {
            return BAD;
        }
        for (int size = 0; size < 6; size++) {
            for (int others = 0; others < 64; others++) {
                if (Integer.bitCount(others) == size && (others >> m & 1) == 0
                    && pass(others | 1 << m)) {
                    return what == 0 ? size : others;
                }
            }
        }
        return NONE;
    }

    int tears(int set) {
        if (set < 1 || set > 63) {
            return BAD;
        }
        int many = 0;
        for (int m = 0; m < 6; m++) {
            many += pass(set) && (set >> m & 1) == 1 && !pass(1 << m) ? 1 : 0;
        }
        return many;
    }

    int word(int w, int what, int of, int by) {
        if (w < 0 || w > 4 || what < 0 || what > 3 || of < 0 || of > (what < 2 ? 1 : 3)
            || by < 0 || by > (what == 3 ? 3 : 59)) {
            return BAD;
        }
        int was = words[w][0];
        words[w] = new int[] {what, of, by};
        return was;
    }

    int mended(int what) {
        if (what < 0 || what > 2) {
            return BAD;
        }
        int best = -1;
        int many = 0;
        for (int set = 0; set < 32; set++) {
            int size = Integer.bitCount(set);
            int bestSize = best < 0 ? 99 : Integer.bitCount(best);
            if (size > bestSize || !mends(set)) {
                continue;
            }
            many = size == bestSize ? many + 1 : 1;
            best = size == bestSize ? best : set;
        }
        if (best < 0) {
            return NONE;
        }
        return new int[] {Integer.bitCount(best), best, many}[what];
    }

    private boolean mends(int set) {
        Law keptLaw = law;
        Acts keptActs = acts;
        int[] sum = new int[3];
        for (int[] p : people) {
            sum[p[0]] += p[1];
        }
        law = new Law();
        law.n = keptLaw.n;
        law.kind = keptLaw.kind;
        for (List<Step> b : keptLaw.begun) {
            List<Step> copy = new ArrayList<>();
            for (Step s : b) {
                copy.add(s.copy());
            }
            law.begun.add(copy);
        }
        acts = new Acts();
        for (int w = 0; w < 5; w++) {
            if ((set >> w & 1) == 0) {
                continue;
            }
            int what = words[w][0];
            int of = words[w][1];
            int by = words[w][2];
            if (what == 1) {
                sum[of + 1] = Math.max(0, sum[of + 1] - by);
            }
            for (List<Step> b : law.begun) {
                if (of < b.size() && what == 2) {
                    b.get(of).g = Math.max(0, b.get(of).g - by);
                }
                if (of < b.size() && what == 3) {
                    b.get(of).kinds |= 1 << by;
                }
            }
        }
        boolean first = law.bill(0).isEmpty() || game(0, sum[1], sum[2]) != NONE;
        boolean second = law.bill(1).isEmpty() || game(1, sum[1], sum[2]) != NONE;
        law = keptLaw;
        acts = keptActs;
        return first && !second;
    }

    // ---- kinds, images

    private int priceOf(int kind, int d) {
        int[] over = {-1, 0, 0, 2, 0, 1, 0};
        traced += (long) Math.pow(10, kind);
        if (kind == 0) {
            return kindNow(d) + 1;
        }
        int up = priceOf(over[kind], d);
        int onIt = 0;
        int bills = 0;
        for (int b = 0; b < 2; b++) {
            bills += law.bill(b).isEmpty() ? 0 : 1;
            for (Step s : law.bill(b)) {
                onIt += onKind(s, d) ? 1 : 0;
            }
        }
        return new int[] {0, up + onIt, 3 * up, up + law.n - 1 - d, up + (acts.holy[d] ? 5 : 0),
            up * bills, up / 2}[kind];
    }

    int price(int kind, int d) {
        return kind < 0 || kind > 6 || !isDay(d) ? BAD : priceOf(kind, d);
    }

    int keep(int i) {
        if (i < 0 || i > 1) {
            return BAD;
        }
        images[i] = acts.copy();
        return acts.acts;
    }

    int back(int i) {
        if (i < 0 || i > 1) {
            return BAD;
        }
        if (images[i] == null) {
            return STATE;
        }
        acts = images[i].copy();
        while (acts.left.size() < people.size()) {
            acts.left.add(people.get(acts.left.size())[1]);
        }
        return acts.acts;
    }

    int count(int what) {
        if (what < 0 || what > 6) {
            return BAD;
        }
        int[] left = new int[3];
        for (int p = 0; p < people.size(); p++) {
            left[people.get(p)[0]] += acts.left.get(p);
        }
        int holy = 0;
        for (boolean h : acts.holy) {
            holy += h ? 1 : 0;
        }
        return new int[] {law.n, people.size(), groups.size(), text.size(), left[1], left[2],
            holy}[what];
    }

    long trace() {
        return traced;
    }
}
