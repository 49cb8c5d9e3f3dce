/**
 * A village in which one is called good or bad by what one did, to whom, and what one was oneself.
 * The numbered promises are in the project's document; README.md tells how to use the class.
 */
public final class SaidOfHim {
    public static final int NONE = -1, UNKNOWN = -1001, OUTSIDE = -1002, NOT = -1003, FULL = -1004;

    private static final int RULES = 4096;
    private static final int WAYS = 16;
    private static final int WHOLE = 1000;
    private static final int HALF = 500;
    private static final int EYE_TOP = 50;
    private static final int LEAST_TOP = 999999;

    private final Village village;
    private final Reader reader;
    private final Custom custom;
    private final Walk walk;
    private final Another another;
    private final Judge judge;
    private final Survey survey;
    private final Views views;
    private int least;

    public SaidOfHim() {
        village = new Village();
        reader = new Reader();
        custom = new Custom();
        walk = new Walk();
        another = new Another();
        judge = new Judge(village, custom, walk, another);
        survey = new Survey(judge);
        views = new Views();
        least = 0;
    }

    // ---- the village

    public int feed(int n, long bytes) {
        if (!within(n, 1, 8)) return OUTSIDE;
        return reader.append(n, bytes);
    }

    public int read() {
        int answer = reader.parse();
        if (answer >= 0) {
            village.become(reader.draft);
            survey.drop();
        }
        return answer;
    }

    public int fault() {
        return reader.faultAt;
    }

    public int village(int what) {
        switch (what) {
            case 0: return village.cost;
            case 1: return village.worth;
            case 2: return village.hand;
            case 3: return village.eye;
            case 4: return village.fade;
            case 5: return village.fresh;
            case 6: return village.way;
            case 7: return village.naming;
            case 8: return least;
            case 9: return reader.size;
            default: return OUTSIDE;
        }
    }

    public int least(int v) {
        if (!within(v, 0, LEAST_TOP)) return OUTSIDE;
        int before = least;
        least = v;
        return before;
    }

    public int does(int rule, int d, int r, int deed) {
        if (!isRule(rule) || !within(d, 0, 1) || !within(r, 0, 1) || !within(deed, NONE, 1)) return OUTSIDE;
        if (deed == NONE) return bit(wayOf(rule), 2 * d + r);
        return bit(namingOf(rule), 4 * d + 2 * r + deed);
    }

    // ---- shares

    public int step(int rule, int x) {
        if (!isRule(rule) || !isShare(x)) return OUTSIDE;
        custom.live(village, rule, village.eye);
        return custom.next(x);
    }

    public int from(int rule, int x, int what) {
        if (!isRule(rule) || !isShare(x) || !within(what, 0, 2)) return OUTSIDE;
        custom.live(village, rule, village.eye);
        walk.go(custom, x);
        if (what == 0) return walk.rest();
        return what == 1 ? walk.lead : walk.ring;
    }

    public int helped(int rule, int x) {
        if (!isRule(rule) || !isShare(x)) return OUTSIDE;
        custom.live(village, rule, village.eye);
        return custom.aid(x);
    }

    public int fit(int rule, int i) {
        if (!isRule(rule)) return OUTSIDE;
        custom.live(village, rule, village.eye);
        int count = 0;
        for (int x = 0; x <= WHOLE; x++) {
            if (custom.next(x) != x) continue;
            if (count == i) return x;
            count++;
        }
        return i == NONE ? count : NONE;
    }

    // ---- others

    public long other(int rule, int way, int x, int what) {
        if (!isRule(rule) || !isWay(way) || !isShare(x) || !within(what, 0, 3)) return OUTSIDE;
        custom.live(village, rule, village.eye);
        another.live(custom, way, x);
        switch (what) {
            case 0: return leastTerm(another.good, another.times, another.good);
            case 1: return leastTerm(another.good, another.times, another.times);
            case 2: return leastTerm(another.hasUpper(custom), another.hasLower(), another.hasUpper(custom));
            default: return leastTerm(another.hasUpper(custom), another.hasLower(), another.hasLower());
        }
    }

    public int gain(int rule, int way, int x) {
        if (!isRule(rule) || !isWay(way) || !isShare(x)) return OUTSIDE;
        custom.live(village, rule, village.eye);
        judge.measure(x);
        return judge.compare(way, x);
    }

    public int holds(int rule) {
        if (!isRule(rule)) return OUTSIDE;
        return judge.verdict(rule, village.eye);
    }

    public int all(int i) {
        survey.make();
        return i == NONE ? survey.count(least) : survey.nth(i, least);
    }

    public int best(int what) {
        if (!within(what, 0, 2)) return OUTSIDE;
        survey.make();
        if (what == 0) return survey.mostHelped(least);
        return what == 1 ? survey.plainest(least) : survey.firmest(least);
    }

    public int plain(int rule) {
        return isRule(rule) ? plainness(rule) : OUTSIDE;
    }

    public int bears(int rule) {
        return isRule(rule) ? judge.greatestEye(rule) : OUTSIDE;
    }

    public int turned(int rule) {
        return isRule(rule) ? turnedAbout(rule) : OUTSIDE;
    }

    public int kinds() {
        survey.make();
        return survey.countKinds(least);
    }

    // ---- views

    public int view(int p, int c) {
        if (!Views.isPerson(p) || !Views.isPerson(c)) return UNKNOWN;
        return views.name(p, c);
    }

    public int call(int p, int c, int v) {
        if (!Views.isPerson(p) || !Views.isPerson(c)) return UNKNOWN;
        if (!within(v, 0, 1)) return OUTSIDE;
        int before = views.name(p, c);
        views.put(p, c, v);
        return before;
    }

    public int meet(int a, int b, int wrong) {
        if (!Views.arePair(a, b) || !Views.isSet(wrong)) return UNKNOWN;
        return views.meeting(a, b, wrong, village);
    }

    public int kin(int p, int set) {
        if (!Views.isPerson(p) || !Views.isSet(set) || bit(set, p) == 1) return UNKNOWN;
        return views.setKin(p, set);
    }

    public int talk(int a, int b) {
        if (!Views.arePair(a, b)) return UNKNOWN;
        return views.tell(a, b);
    }

    public int agreed(int what) {
        switch (what) {
            case 0: return views.pairsAlike();
            case 1: return views.calledAlike();
            case 2: return views.calledGood();
            default: return OUTSIDE;
        }
    }

    public int forget() {
        return views.clear();
    }

    // ---- bounds and bits

    private static boolean within(int v, int low, int top) {
        return v >= low && v <= top;
    }

    private static boolean isRule(int rule) {
        return within(rule, 0, RULES - 1);
    }

    private static boolean isWay(int way) {
        return within(way, 0, WAYS - 1);
    }

    private static boolean isShare(int x) {
        return within(x, 0, WHOLE);
    }

    private static int bit(int set, int k) {
        return (set >> k) & 1;
    }

    private static int wayOf(int rule) {
        return rule & 15;
    }

    private static int namingOf(int rule) {
        return rule >> 4;
    }

    // ---- what a RULE is by itself

    private static int plainness(int rule) {
        int way = wayOf(rule);
        int naming = namingOf(rule);
        return hangs(way, 4, 2) + hangs(way, 4, 1)
            + hangs(naming, 8, 4) + hangs(naming, 8, 2) + hangs(naming, 8, 1);
    }

    private static int hangs(int set, int size, int turn) {
        for (int k = 0; k < size; k++) {
            if (bit(set, k) != bit(set, k ^ turn)) return 1;
        }
        return 0;
    }

    private static int turnedAbout(int rule) {
        int way = 0;
        for (int k = 0; k < 4; k++) way |= bit(wayOf(rule), k ^ 3) << k;
        int naming = 0;
        // the DEED (bit 0 of the place) is no NAME and stays
        for (int k = 0; k < 8; k++) naming |= (1 - bit(namingOf(rule), k ^ 6)) << k;
        return 16 * naming + way;
    }

    /** What becomes of part, one of both numbers of a fraction, in least terms; the lower one is above 0. */
    private static long leastTerm(long upper, long lower, long part) {
        long a = Math.abs(upper);
        long b = lower;
        // two longs need fewer than a hundred rounds
        for (int n = 0; n < 100 && b != 0; n++) {
            long rest = a % b;
            a = b;
            b = rest;
        }
        return a == 0 ? part : part / a;
    }

    /** THE VILLAGE, or one that a text is about to tell. */
    private static final class Village {
        int cost, worth, hand, eye, fade, fresh, way, naming;

        Village() {
            asAtFirst();
        }

        void asAtFirst() {
            cost = 1;
            worth = 3;
            hand = 1;
            eye = 1;
            fade = 0;
            fresh = 1;
            way = 10;
            naming = 153;
        }

        void become(Village o) {
            cost = o.cost;
            worth = o.worth;
            hand = o.hand;
            eye = o.eye;
            fade = o.fade;
            fresh = o.fresh;
            way = o.way;
            naming = o.naming;
        }
    }

    /** THE TEXT. It tells a draft, so that a FAULT leaves THE VILLAGE as it was. */
    private static final class Reader {
        private static final int ROOM = 120;
        private static final int CLAUSES = 7;
        private static final int MISPLACED = 1, BEYOND = 2, AGAIN = 3;

        private final int[] bytes = new int[ROOM];
        final Village draft = new Village();
        int size = 0;
        int faultAt = NONE;
        private int flaw = 0;
        private int place = 0;
        private int told = 0;

        int append(int n, long from) {
            if (n > ROOM - size) return FULL;
            for (int k = n - 1; k >= 0; k--) {
                bytes[size] = (int) (from >> (8 * k)) & 255;
                size++;
            }
            return size;
        }

        int parse() {
            draft.asAtFirst();
            flaw = 0;
            faultAt = NONE;
            place = 0;
            told = 0;
            skipBlanks();
            // one more than there are: that one is told AGAIN or MISPLACED
            for (int n = 0; n <= CLAUSES && flaw == 0 && place < size; n++) {
                takeClause();
                skipBlanks();
            }
            size = 0;
            return flaw == 0 ? Integer.bitCount(told) : -10 - flaw;
        }

        private void takeClause() {
            int start = place;
            int clause = takeClauseWord();
            if (clause == NONE) {
                blame(MISPLACED, start);
            } else if (bit(told, clause) == 1) {
                blame(AGAIN, start);
            } else {
                told |= 1 << clause;
                takeBody(clause);
                takeEnd();
            }
        }

        private int takeClauseWord() {
            if (takeWord("cost")) return 0;
            if (takeWord("worth")) return 1;
            if (takeWord("hand")) return 2;
            if (takeWord("eye")) return 3;
            if (takeWord("fade")) return 4;
            if (takeWord("way")) return 5;
            if (takeWord("naming")) return 6;
            return NONE;
        }

        private void takeBody(int clause) {
            switch (clause) {
                case 0: draft.cost = takeNumber(99); break;
                case 1: draft.worth = takeNumber(99); break;
                case 2: draft.hand = takeNumber(50); break;
                case 3: draft.eye = takeNumber(EYE_TOP); break;
                case 4:
                    draft.fade = takeNumber(99);
                    if (flaw == 0 && takeWord("new")) draft.fresh = takeNumber(1);
                    break;
                case 5: draft.way = takeSet(4, "not", "help"); break;
                default: draft.naming = takeSet(8, "bad", "good"); break;
            }
        }

        private int takeSet(int count, String zero, String one) {
            int set = 0;
            for (int k = 0; k < count && flaw == 0; k++) {
                if (takeWord(one)) set |= 1 << k;
                else if (!takeWord(zero)) blame(MISPLACED, place);
            }
            return set;
        }

        private int takeNumber(int top) {
            skipBlanks();
            int start = place;
            int value = 0;
            while (place < size && within(bytes[place], '0', '9')) {
                // beyond two figures it is refused, whatever it is worth
                value = (10 * value + bytes[place] - '0') % 1000;
                place++;
            }
            int figures = place - start;
            if (figures == 0) blame(MISPLACED, start);
            else if (figures > 2 || value > top) blame(BEYOND, start);
            return value;
        }

        private void takeEnd() {
            if (flaw != 0) return;
            skipBlanks();
            if (place < size && bytes[place] == ';') place++;
            else blame(MISPLACED, place);
        }

        /** Goes beyond the word if just this one stands next; else stays at the first byte that is no blank. */
        private boolean takeWord(String word) {
            skipBlanks();
            int end = place;
            while (end < size && within(bytes[end], 'a', 'z')) end++;
            if (end - place != word.length()) return false;
            for (int k = 0; k < word.length(); k++) {
                if (bytes[place + k] != word.charAt(k)) return false;
            }
            place = end;
            return true;
        }

        private void skipBlanks() {
            while (place < size && bytes[place] == ' ') place++;
        }

        private void blame(int number, int at) {
            flaw = number;
            faultAt = at;
        }
    }

    /** A RULE as it is lived in a village, with an EYE of its own so that BEARS can try others. */
    private static final class Custom {
        /** Place 4 d and 2 r and whether help is meant: how often of 10 to the 4 one is called GOOD then. */
        private final int[] odds = new int[8];
        /** Place 2 d and r: the odds by THE WAY of the RULE, picked once since a walk asks for them at each STEP. */
        private final int[] own = new int[4];
        int way, cost, worth;
        /** How often of a hundred who means to help does so. */
        int keep;
        private int fade, fresh;

        void live(Village v, int rule, int eye) {
            way = wayOf(rule);
            keep = 100 - v.hand;
            cost = v.cost;
            worth = v.worth;
            fade = v.fade;
            fresh = v.fresh;
            int naming = namingOf(rule);
            for (int k = 0; k < 8; k += 2) {
                int refused = bit(naming, k) == 1 ? 100 - eye : eye;
                int given = bit(naming, k + 1) == 1 ? 100 - eye : eye;
                odds[k] = 100 * refused;
                odds[k + 1] = keep * given + v.hand * refused;
                own[k >> 1] = odds[k + bit(way, k >> 1)];
            }
        }

        /** How often of 10 to the 7 a giver d is called GOOD, living by a WAY, others being GOOD by x. */
        long calledGood(int w, int d, int x) {
            int k = 4 * (d & 1);
            return (long) (WHOLE - x) * odds[k + bit(w, k >> 1)]
                + (long) x * odds[k + 2 + bit(w, (k >> 1) + 1)];
        }

        int next(int x) {
            long bad = WHOLE - x;
            long often = bad * bad * own[0] + bad * x * (own[1] + own[2]) + (long) x * x * own[3];
            int share = (int) (often / 10000000L);
            return ((100 - fade) * share + fade * WHOLE * fresh) / 100;
        }

        int aid(int x) {
            int bad = WHOLE - x;
            int meant = bit(way, 0) * bad * bad + (bit(way, 1) + bit(way, 2)) * bad * x + bit(way, 3) * x * x;
            return (int) ((long) meant * keep / 100);
        }
    }

    /** STEPS from a SHARE till one comes again. */
    private static final class Walk {
        private final int[] path = new int[WHOLE + 1];
        /** 1 and the STEPS behind which a SHARE came first; 0 between walks. */
        private final int[] came = new int[WHOLE + 1];
        int lead, ring;
        private int end;

        void go(Custom custom, int start) {
            int x = start;
            int n = 0;
            while (n <= WHOLE && isShare(x) && came[x] == 0) {
                path[n] = x;
                n++;
                came[x] = n;
                x = custom.next(x);
            }
            end = x;
            lead = isShare(x) ? came[x] - 1 : n;
            ring = n - lead;
            for (int k = 0; k < n; k++) came[path[k]] = 0;
        }

        int rest() {
            return ring == 1 ? end : NONE;
        }
    }

    /** One that lives by a WAY of its own among those of a RULE. */
    private static final class Another {
        /** It is GOOD good of times times. */
        long good, times;
        /**
         * HAS, times 10 to the 5 / (100 less HAND), which is alike for every WAY in a village; as a whole and a rest of
         * times.
         */
        long whole, part;
        private long has;

        void live(Custom custom, int q, int x) {
            long u = custom.calledGood(q, 1, x);
            long v = custom.calledGood(q, 0, x);
            good = v;
            times = 10000000L - u + v;
            if (times <= 0) {
                good = 0;
                times = 1;
            }
            has = good * worthBeing(1, custom, q, x) + (times - good) * worthBeing(0, custom, q, x);
            whole = Math.floorDiv(has, times);
            part = has - whole * times;
        }

        private static long worthBeing(int name, Custom custom, int q, int x) {
            int bad = WHOLE - x;
            int got = bit(custom.way, name) * bad + bit(custom.way, 2 + name) * x;
            int gave = bit(q, 2 * name) * bad + bit(q, 2 * name + 1) * x;
            return (long) custom.worth * got - (long) custom.cost * gave;
        }

        long hasUpper(Custom custom) {
            return has * custom.keep;
        }

        long hasLower() {
            return times * 100000L;
        }
    }

    /** Who would GAIN by acting otherwise, and so whether a RULE HOLDS. */
    private static final class Judge {
        final Village village;
        private final Custom custom;
        private final Walk walk;
        private final Another another;
        private long whole, part, times;

        Judge(Village village, Custom custom, Walk walk, Another another) {
            this.village = village;
            this.custom = custom;
            this.walk = walk;
            this.another = another;
        }

        /** Keeps what one HAS by THE WAY of the RULE that is lived, to compare others with. */
        void measure(int x) {
            another.live(custom, custom.way, x);
            whole = another.whole;
            part = another.part;
            times = another.times;
        }

        int compare(int q, int x) {
            another.live(custom, q, x);
            // the wholes first: both fractions crossed at once would go beyond a long
            if (another.whole != whole) return another.whole < whole ? -1 : 1;
            return Long.compare(another.part * times, part * another.times);
        }

        int verdict(int rule, int eye) {
            custom.live(village, rule, eye);
            walk.go(custom, HALF);
            int x = walk.rest();
            if (x == NONE) return 0;
            measure(x);
            for (int q = 0; q < WAYS; q++) {
                if (q != custom.way && compare(q, x) > 0) return -2 - q;
            }
            return 1;
        }

        /** HELPED at THE REST that the latest verdict found. */
        int aidAtRest() {
            return custom.aid(walk.rest());
        }

        int greatestEye(int rule) {
            int e = 0;
            while (e <= EYE_TOP && verdict(rule, e) == 1) e++;
            return e - 1;
        }
    }

    /** All RULES tried. It is dear, so it is kept till a text tells another village. */
    private static final class Survey {
        private static final int UNSOUGHT = -2;

        private final Judge judge;
        private final int[] aids = new int[RULES];
        private boolean made = false;
        private int top = NONE;
        private int firm = UNSOUGHT;

        Survey(Judge judge) {
            this.judge = judge;
        }

        void drop() {
            made = false;
        }

        /** Goes ahead of every question. */
        void make() {
            if (made) return;
            top = NONE;
            int eye = judge.village.eye;
            for (int rule = 0; rule < RULES; rule++) {
                aids[rule] = judge.verdict(rule, eye) == 1 ? judge.aidAtRest() : NONE;
                top = Math.max(top, aids[rule]);
            }
            firm = UNSOUGHT;
            made = true;
        }

        int count(int least) {
            int count = 0;
            for (int rule = 0; rule < RULES; rule++) {
                if (aids[rule] > least) count++;
            }
            return count;
        }

        int nth(int i, int least) {
            int count = 0;
            for (int rule = 0; rule < RULES; rule++) {
                if (aids[rule] <= least) continue;
                if (count == i) return rule;
                count++;
            }
            return NONE;
        }

        int mostHelped(int least) {
            for (int rule = 0; rule < RULES; rule++) {
                if (aids[rule] > least && aids[rule] == top) return rule;
            }
            return NONE;
        }

        int plainest(int least) {
            int found = NONE;
            int fewest = 6;
            for (int rule = 0; rule < RULES; rule++) {
                if (aids[rule] <= least || plainness(rule) >= fewest) continue;
                found = rule;
                fewest = plainness(rule);
            }
            return found;
        }

        int firmest(int least) {
            if (top <= least) return NONE;
            // LEAST never parts those with the most HELPED, so one search does for every LEAST
            if (firm != UNSOUGHT) return firm;
            int most = NONE - 1;
            for (int rule = 0; rule < RULES && most < EYE_TOP; rule++) {
                if (aids[rule] != top) continue;
                int eye = judge.greatestEye(rule);
                if (eye <= most) continue;
                firm = rule;
                most = eye;
            }
            return firm;
        }

        int countKinds(int least) {
            int count = 0;
            for (int rule = 0; rule < RULES; rule++) {
                if (aids[rule] <= least) continue;
                int twin = turnedAbout(rule);
                // of two SAME ones that both are HOLDING the first one counts
                if (twin >= rule || aids[twin] <= least) count++;
            }
            return count;
        }
    }

    /** PERSONS: whom each calls GOOD, and their KIN, as SETS. */
    private static final class Views {
        private static final int PERSONS = 6;
        private static final int EVERYONE = 63;

        private final int[] good = new int[PERSONS];
        private final int[] kindred = new int[PERSONS];

        Views() {
            clear();
        }

        static boolean isPerson(int p) {
            return within(p, 0, PERSONS - 1);
        }

        static boolean isSet(int set) {
            return within(set, 0, EVERYONE);
        }

        static boolean arePair(int a, int b) {
            return isPerson(a) && isPerson(b) && a != b;
        }

        int name(int p, int c) {
            return bit(good[p], c);
        }

        void put(int p, int c, int v) {
            good[p] = (good[p] & ~(1 << c)) | (v << c);
        }

        int meeting(int a, int b, int wrong, Village village) {
            int deed = bit(village.way, 2 * name(a, a) + name(a, b));
            for (int p = 0; p < PERSONS; p++) {
                int seen = deed ^ bit(wrong, p);
                put(p, a, bit(village.naming, 4 * name(p, a) + 2 * name(p, b) + seen));
            }
            return deed;
        }

        int setKin(int p, int set) {
            int before = kindred[p];
            kindred[p] = set;
            return before;
        }

        int tell(int a, int b) {
            int told = good[a] | kindred[a];
            int about = EVERYONE & ~(1 << a) & ~(1 << b);
            int changed = (told ^ good[b]) & about;
            good[b] ^= changed;
            return Integer.bitCount(changed);
        }

        private int callersGood(int c) {
            int count = 0;
            for (int p = 0; p < PERSONS; p++) count += name(p, c);
            return count;
        }

        int pairsAlike() {
            int count = 0;
            for (int c = 0; c < PERSONS; c++) {
                int n = callersGood(c);
                int m = PERSONS - n;
                count += n * (n - 1) / 2 + m * (m - 1) / 2;
            }
            return count;
        }

        int calledAlike() {
            int count = 0;
            for (int c = 0; c < PERSONS; c++) {
                int n = callersGood(c);
                if (n == 0 || n == PERSONS) count++;
            }
            return count;
        }

        int calledGood() {
            int count = 0;
            for (int c = 0; c < PERSONS; c++) {
                if (callersGood(c) == PERSONS) count++;
            }
            return count;
        }

        int clear() {
            int bad = 0;
            for (int p = 0; p < PERSONS; p++) {
                bad += PERSONS - Integer.bitCount(good[p]);
                good[p] = EVERYONE;
                kindred[p] = 0;
            }
            return bad;
        }
    }
}
