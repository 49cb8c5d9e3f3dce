/** The edges of other, gain, holds, all, best, plain, bears, turned and kinds (promises 12 to 20, section 4). */
public final class OthersEdgesTest {
    private static final Check CHECK = new Check("OthersEdgesTest");
    private static final int OUTSIDE = SaidOfHim.OUTSIDE, NONE = SaidOfHim.NONE;
    private static final int BASIC = 16 * 153 + 10;
    private static final int FLIP = 16 * 15;
    private static final int STAY = 16 * 240;
    private static final int[] NO_RULES = {-1, 4096, Integer.MIN_VALUE, Integer.MAX_VALUE};
    private static final int[] NO_WAYS = {-1, 16, Integer.MIN_VALUE, Integer.MAX_VALUE};
    private static final int[] NO_SHARES = {-1, 1001, Integer.MIN_VALUE, Integer.MAX_VALUE};

    public static void main(String[] args) {
        otherBounds();
        otherIsGood();
        otherHas();
        otherInLeastTerms();
        gainBounds();
        gainAlike();
        gainByAHair();
        gainByGreatNumbers();
        holdsBounds();
        holdsTheFirstWay();
        holdsIfNoneGains();
        allBounds();
        allAtLeast();
        bestBounds();
        bestOfLikeOnes();
        bestHangsOnAll();
        bestThatBears();
        plainFromNoneToAll();
        bearsBounds();
        bearsEachEye();
        turnedBounds();
        turnedTwice();
        kindsOfNone();
        kindsOfSameOnes();
        holdingGoesWithTheVillage();
        CHECK.end();
    }

    private static SaidOfHim faultless() {
        return Check.village("hand 0;eye 0;");
    }

    private static int aid(SaidOfHim x, int rule) {
        return x.helped(rule, x.from(rule, 500, 0));
    }

    // ---- other

    private static void otherBounds() {
        CHECK.about("12: ANOTHER with a WAY (0 .. 15): what = 0 .. 3. OUTSIDE");
        SaidOfHim x = new SaidOfHim();
        for (int rule : NO_RULES) CHECK.due("rule " + rule, x.other(rule, 0, 0, 0), OUTSIDE);
        for (int way : NO_WAYS) CHECK.due("way " + way, x.other(0, way, 0, 0), OUTSIDE);
        for (int share : NO_SHARES) CHECK.due("share " + share, x.other(0, 0, share, 0), OUTSIDE);
        for (int what : new int[] {-1, 4, Integer.MIN_VALUE, Integer.MAX_VALUE}) CHECK.due("what " + what, x.other(0, 0, 0, what), OUTSIDE);
        CHECK.due("the first of all", x.other(0, 0, 0, 0), 1);
        CHECK.due("the first of all", x.other(0, 0, 0, 1), 100);
        // always helped and always helping, 99 of a hundred times: 99 times 2 of a hundred
        CHECK.due("the last of all", x.other(4095, 15, 1000, 2), 99);
        CHECK.due("the last of all", x.other(4095, 15, 1000, 3), 50);
    }

    private static void fraction(SaidOfHim x, int[] at, int what, long upper, long lower) {
        String call = "other(" + at[0] + ", " + at[1] + ", " + at[2] + ", ";
        CHECK.due(call + what + ")", x.other(at[0], at[1], at[2], what), upper);
        CHECK.due(call + (what + 1) + ")", x.other(at[0], at[1], at[2], what + 1), lower);
    }

    private static void otherIsGood() {
        CHECK.about("Section 4: y is v, z is 10 to the 7 less u, and v (0 by 1, if that is 0)");
        SaidOfHim x = faultless();
        for (int share : new int[] {0, 400, 1000}) fraction(x, new int[] {STAY, 0, share}, 0, 0, 1);
        // by its WAY the GOOD are helped and helping GOOD, the BAD help nobody: it stays what it is
        fraction(x, new int[] {16 * 0xa0, 12, 400}, 0, 0, 1);
        fraction(x, new int[] {STAY, 15, 400}, 2, -1, 1);
        fraction(x, new int[] {STAY + 15, 15, 400}, 2, 2, 1);
        CHECK.about("Section 4: it is GOOD always, never, and half of the times");
        fraction(x, new int[] {4080, 0, 400}, 0, 1, 1);
        fraction(x, new int[] {0, 0, 400}, 0, 0, 1);
        fraction(x, new int[] {FLIP, 0, 400}, 0, 1, 2);
        // GOOD only from BAD to the GOOD, 400 of 1000 times, and back at once: 400 of 1400
        fraction(x, new int[] {16 * 12, 0, 400}, 0, 2, 7);
        fraction(x, new int[] {16 * 12, 0, 0}, 0, 0, 1);
        fraction(x, new int[] {16 * 12, 0, 1000}, 0, 1, 2);
        fraction(Check.village("eye 50;hand 50;"), new int[] {BASIC, 7, 123}, 0, 1, 2);
        CHECK.about("Section 4: FADE left out");
        fraction(Check.village("fade 99 new 0;"), new int[] {BASIC, 10, 980}, 0, 245099, 250000);
        fraction(Check.village("fade 99 new 1;"), new int[] {BASIC, 10, 980}, 2, 48539403, 25000000);
    }

    private static void otherHas() {
        CHECK.about("12: HAS (the upper one may be below 0)");
        SaidOfHim x = Check.village("cost 99;worth 99;hand 0;eye 0;");
        fraction(x, new int[] {0, 15, 0}, 2, -99, 1);
        fraction(x, new int[] {0, 15, 1000}, 2, -99, 1);
        fraction(x, new int[] {15, 0, 0}, 2, 99, 1);
        fraction(x, new int[] {15, 0, 1000}, 2, 99, 1);
        fraction(x, new int[] {15, 15, 500}, 2, 0, 1);
        fraction(x, new int[] {0, 0, 500}, 2, 0, 1);
        fraction(x, new int[] {0, 1, 999}, 2, -99, 1000);
        fraction(x, new int[] {1, 0, 999}, 2, 99, 1000);
        fraction(Check.village("cost 99;worth 99;hand 50;eye 0;"), new int[] {0, 15, 0}, 2, -99, 2);
        fraction(Check.village("cost 0;worth 0;"), new int[] {BASIC, 15, 500}, 2, 0, 1);
        fraction(Check.village("cost 0;worth 99;hand 1;"), new int[] {15, 15, 500}, 2, 9801, 100);
        CHECK.about("Section 4: WORTH by those of the RULE, by their WAY, their SHARES");
        x = Check.village("cost 0;worth 1;hand 0;eye 0;");
        // FLIP is GOOD half of the times; those who help are BAD 750, GOOD 250 of 1000
        int[] upper = {3, 3, 1, 1};
        for (int k = 0; k < 4; k++) fraction(x, new int[] {FLIP + (1 << k), 0, 250}, 2, upper[k], 8);
        CHECK.about("Section 4: COST times how often it helps");
        x = Check.village("cost 1;worth 0;hand 0;eye 0;");
        int[] paid = {-3, -1, -3, -1};
        for (int k = 0; k < 4; k++) fraction(x, new int[] {FLIP, 1 << k, 250}, 2, paid[k], 8);
    }

    private static long common(long a, long b) {
        return b == 0 ? Math.abs(a) : common(b, a % b);
    }

    private static void otherInLeastTerms() {
        CHECK.about("Terms: fractions are in least terms, the lower number above 0");
        for (String text : new String[] {"", "cost 99;worth 98;hand 49;eye 49;", "cost 97;worth 1;hand 37;eye 0;"}) {
            SaidOfHim x = Check.village(text);
            for (int n = 0; n < 60; n++) {
                int rule = n * 1237 % 4096;
                int way = n * 7 % 16;
                int share = n * 389 % 1001;
                for (int what = 0; what < 4; what += 2) {
                    long upper = x.other(rule, way, share, what);
                    long lower = x.other(rule, way, share, what + 1);
                    CHECK.holds("above 0 " + n, lower > 0);
                    CHECK.due("least " + n, common(upper, lower), 1);
                    if (what == 0) CHECK.holds("between 0 and 1", upper >= 0 && upper <= lower);
                }
            }
        }
    }

    // ---- gain

    private static void gainBounds() {
        CHECK.about("13: GAIN: -1 less, 0 alike, 1 more. OUTSIDE");
        SaidOfHim x = new SaidOfHim();
        for (int rule : NO_RULES) CHECK.due("rule " + rule, x.gain(rule, 0, 0), OUTSIDE);
        for (int way : NO_WAYS) CHECK.due("way " + way, x.gain(0, way, 0), OUTSIDE);
        for (int share : NO_SHARES) CHECK.due("share " + share, x.gain(0, 0, share), OUTSIDE);
        CHECK.due("the first of all", x.gain(0, 0, 0), 0);
        CHECK.due("the last of all", x.gain(4095, 15, 1000), 0);
        CHECK.due("less", x.gain(0, 15, 1000), -1);
        CHECK.due("more", x.gain(15, 0, 1000), 1);
    }

    private static void gainAlike() {
        CHECK.about("Section 4: GAIN alike: by THE WAY of the RULE itself");
        SaidOfHim x = new SaidOfHim();
        for (int rule = 0; rule < 4096; rule += 31) CHECK.due("own WAY of " + rule, x.gain(rule, rule % 16, rule % 1001), 0);
        CHECK.about("Section 4: GAIN alike: by what never comes, or costs nothing");
        x = faultless();
        CHECK.due("with all BAD, to help the GOOD", x.gain(0, 10, 0), 0);
        CHECK.due("with all BAD, to help the BAD", x.gain(0, 5, 0), -1);
        CHECK.due("with all GOOD, to help the BAD", x.gain(0, 5, 1000), 0);
        CHECK.due("never GOOD, what it does then", x.gain(0, 12, 500), 0);
        x = Check.village("cost 0;worth 0;");
        for (int q = 0; q < 16; q++) CHECK.due("for nothing " + q, x.gain(BASIC, q, 500), 0);
        CHECK.about("Section 4: GAIN alike: of two fractions by other numbers");
        CHECK.due("alike", Check.village("cost 36;worth 64;hand 9;eye 43;").gain(1683, 6, 834), 0);
        CHECK.due("alike", Check.village("cost 19;worth 63;hand 15;eye 25;").gain(2915, 9, 22), 0);
    }

    private static void gainByAHair() {
        CHECK.about("Section 4: HAS is a fraction: less and more by a hair are not alike");
        // 117 / 25000 against 2983383 / 637484000
        CHECK.due("more", Check.village("cost 33;worth 46;hand 28;eye 49;").gain(1592, 2, 1), 1);
        // -9750393 against -9740331 of 474837500
        CHECK.due("less", Check.village("cost 86;worth 29;hand 28;eye 24;").gain(536, 2, 1), -1);
    }

    private static void gainByGreatNumbers() {
        CHECK.about("Section 4: both fractions crossed go beyond 64 bits");
        // by turns GOOD and BAD, so that both are of 2 times 10 to the 7; crossed: WORTH times 4 times 10 to the 17
        for (int worth = 1; worth <= 99; worth++) {
            SaidOfHim x = Check.village("cost 1;worth " + worth + ";hand 0;eye 0;");
            CHECK.due("more with " + worth, x.gain(FLIP + 15, 0, 500), 1);
            CHECK.due("less with " + worth, x.gain(FLIP, 15, 500), -1);
            CHECK.due("alike with " + worth, x.gain(FLIP + 15, 15, 500), 0);
        }
        for (int cost = 1; cost <= 99; cost++) {
            SaidOfHim x = Check.village("worth 99;hand 0;eye 0;cost " + cost + ";");
            CHECK.due("more at " + cost, x.gain(FLIP + 15, 7, 500), 1);
            CHECK.due("less at " + cost, x.gain(FLIP, 1, 500), -1);
        }
    }

    // ---- holds

    private static void holdsBounds() {
        CHECK.about("14: whether a RULE HOLDS: 1; 0: there is no REST. OUTSIDE");
        SaidOfHim x = faultless();
        for (int rule : NO_RULES) CHECK.due("rule " + rule, x.holds(rule), OUTSIDE);
        CHECK.due("the first", x.holds(0), 1);
        CHECK.due("the last", x.holds(4095), -2);
        CHECK.due("a RING", x.holds(16 * 3), 0);
        CHECK.due("a RING goes before who GAINS", x.holds(16 * 3 + 15), 0);
        CHECK.due("FROM 500 alone it rests", x.holds(FLIP), 1);
        CHECK.due("FROM 501 it would not", x.from(FLIP, 501, 0), NONE);
    }

    private static void firstWay(String text, int rule, int way) {
        SaidOfHim x = Check.village(text);
        int rest = x.from(rule, 500, 0);
        CHECK.due("'" + text + "' holds(" + rule + ")", x.holds(rule), -2 - way);
        for (int q = 0; q < way; q++) CHECK.holds("not " + q, x.gain(rule, q, rest) < 1);
        CHECK.due("but " + way, x.gain(rule, way, rest), 1);
    }

    private static void holdsTheFirstWay() {
        CHECK.about("14: -2 less the first WAY that GAINS more (0 .. 15)");
        int[] rules = {1, 21, 134, 81, 453, 273, 324, 341, 1332, 1041, 2178, 2474, 1284, 1301};
        for (int way = 0; way < rules.length; way++) firstWay("", rules[way], way);
        firstWay("hand 0;eye 0;", 2698, 14);
        firstWay("cost 1;worth 99;", 1367, 15);
    }

    private static void holdsIfNoneGains() {
        CHECK.about("Section 4: A RULE HOLDS, if no q GAINS more: alike is not more");
        SaidOfHim x = Check.village("cost 0;worth 0;");
        int held = 0;
        for (int rule = 0; rule < 4096; rule += 16) {
            int due = x.from(rule, 500, 0) == NONE ? 0 : 1;
            CHECK.due("holds(" + rule + ")", x.holds(rule), due);
            held += due;
            if (rule % 1600 == 0) x = Check.village("cost 0;worth 0;");
        }
        CHECK.holds("some do, some do not", held > 0 && held < 256);
        CHECK.due("nobody helps nobody", new SaidOfHim().holds(0), 1);
    }

    // ---- all

    private static void allBounds() {
        CHECK.about("15: i = NONE how many, else the i-th; NONE");
        SaidOfHim x = new SaidOfHim();
        CHECK.due("how many", x.all(NONE), 118);
        CHECK.due("the first", x.all(0), 17);
        int last = x.all(117);
        CHECK.holds("the last", last > x.all(116) && last < 4096);
        CHECK.due("behind the last", x.all(118), NONE);
        CHECK.due("behind all RULES", x.all(4096), NONE);
        CHECK.due("ahead of NONE", x.all(-2), NONE);
        for (int i : Check.FAR) CHECK.due("far off " + i, x.all(i), NONE);
        CHECK.about("Terms: what has a number has it from 0 on, as it comes");
        for (int i = 1; i < 118; i++) CHECK.holds("all(" + i + ")", x.all(i) > x.all(i - 1));
        CHECK.about("15: none are HOLDING");
        x = Check.village("worth 0;");
        CHECK.due("how many", x.all(NONE), 0);
        CHECK.due("the first", x.all(0), NONE);
        CHECK.due("ahead of it", x.all(-2), NONE);
    }

    private static void allAtLeast() {
        CHECK.about("Section 4: HOLDING: by which more than LEAST are HELPED there");
        SaidOfHim x = new SaidOfHim();
        CHECK.due("it HOLDS", x.holds(0), 1);
        CHECK.due("nobody is HELPED", aid(x, 0), 0);
        CHECK.due("so it is not HOLDING", x.all(0), 17);
        int most = aid(x, 1309);
        x.least(most - 1);
        CHECK.due("one more than LEAST", x.all(0), x.best(0));
        x.least(most);
        CHECK.due("as much as LEAST", x.all(NONE), 0);
        CHECK.due("as much as LEAST", x.all(0), NONE);
        x.least(0);
        CHECK.due("back again", x.all(NONE), 118);
        CHECK.about("Section 4: LEAST 999999, and a million HELPED");
        x = Check.village("cost 0;hand 0;");
        x.least(999999);
        CHECK.due("all are HELPED", aid(x, 15), 1000000);
        CHECK.due("the first", x.all(0), 15);
        CHECK.holds("how many", x.all(NONE) > 1);
        CHECK.due("best(0)", x.best(0), 15);
        CHECK.holds("kinds", x.kinds() > 0);
    }

    // ---- best

    private static void bestBounds() {
        CHECK.about("16: what = 0, 1, 2; NONE: there is none. OUTSIDE");
        SaidOfHim x = new SaidOfHim();
        for (int what : new int[] {-1, 3, Integer.MIN_VALUE, Integer.MAX_VALUE}) CHECK.due("best(" + what + ")", x.best(what), OUTSIDE);
        x.least(999999);
        for (int what = 0; what < 3; what++) CHECK.due("best(" + what + ")", x.best(what), NONE);
        CHECK.due("OUTSIDE, though there is none", x.best(3), OUTSIDE);
        x = Check.village("worth 0;");
        for (int what = 0; what < 3; what++) CHECK.due("best(" + what + ")", x.best(what), NONE);
        CHECK.about("16: of HOLDING ones alone");
        x = new SaidOfHim();
        CHECK.due("0 is plainer and HOLDS", x.plain(0) + x.holds(0), 1);
        CHECK.due("but nobody is HELPED", x.best(1), 277);
        CHECK.due("0 bears more", x.bears(0), 50);
        CHECK.due("but nobody is HELPED", x.best(2), 1309);
        x.least(aid(x, 277));
        CHECK.holds("277 is no longer HOLDING", x.best(1) != 277);
        x.least(aid(x, 277) - 1);
        CHECK.due("one less", x.best(1), 277);
    }

    private static void bestOfLikeOnes() {
        CHECK.about("16: the first of like ones");
        SaidOfHim x = Check.village("cost 0;");
        CHECK.due("15 and 31 are HELPED alike", aid(x, 15), aid(x, 31));
        CHECK.due("most HELPED", x.best(0), 15);
        CHECK.due("4095 is as plain", x.plain(4095), x.plain(15));
        CHECK.due("plainest", x.best(1), 15);
        CHECK.due("4095 bears as much", x.bears(4095), x.bears(15));
        CHECK.due("bears most", x.best(2), 15);
        x = faultless();
        CHECK.due("17 and 3349 are HELPED alike", aid(x, 17), aid(x, 3349));
        CHECK.due("most HELPED", x.best(0), 17);
    }

    private static void bestHangsOnAll() {
        CHECK.about("16: the one that is least by PLAIN, if that is 5");
        SaidOfHim x = Check.village("cost 8;worth 25;hand 8;eye 2;fade 16 new 0;");
        x.least(855392);
        CHECK.due("two", x.all(NONE), 2);
        CHECK.due("PLAIN", x.plain(1309), 5);
        CHECK.due("PLAIN", x.plain(x.all(1)), 5);
        CHECK.due("the first", x.best(1), 1309);
    }

    private static void bestThatBears() {
        CHECK.about("16: which BEARS most, of all that are HELPED as much as the one of 0");
        SaidOfHim x = Check.village("cost 4;worth 11;hand 0;eye 0;fade 2 new 1;");
        CHECK.due("best(0)", x.best(0), 2392);
        CHECK.due("bears", x.bears(2392), 16);
        CHECK.due("best(2)", x.best(2), 2458);
        CHECK.due("bears", x.bears(2458), 31);
        CHECK.due("as much", aid(x, 2458), aid(x, 2392));
        CHECK.due("LEAST just below", x.least(999999), 0);
        CHECK.due("LEAST just below", x.best(2), 2458);
        x = new SaidOfHim();
        int most = aid(x, 1309);
        x.least(most - 1);
        CHECK.due("LEAST just below", x.best(2), 1309);
        x.least(most);
        CHECK.due("LEAST at it", x.best(2), NONE);
        x.least(most - 1);
        CHECK.due("LEAST just below again", x.best(2), 1309);
        CHECK.about("16: one that BEARS NONE is there, too");
        x = Check.village("cost 4;worth 20;hand 16;eye 28;fade 21 new 0;");
        CHECK.due("best(0)", x.best(0), 1309);
        CHECK.due("bears", x.bears(1309), NONE);
        CHECK.due("best(2)", x.best(2), 1309);
    }

    // ---- plain

    private static void plainFromNoneToAll() {
        CHECK.about("17: PLAIN. OUTSIDE");
        SaidOfHim x = new SaidOfHim();
        for (int rule : NO_RULES) CHECK.due("rule " + rule, x.plain(rule), OUTSIDE);
        CHECK.due("the first", x.plain(0), 0);
        CHECK.due("the last", x.plain(4095), 0);
        CHECK.about("Section 4: it hangs on one, if some bit is another one with that turned about");
        for (int k = 0; k < 4; k++) {
            CHECK.due("one bit of the WAY", x.plain(1 << k), 2);
            CHECK.due("all but one", x.plain(15 - (1 << k)), 2);
        }
        for (int k = 0; k < 8; k++) {
            CHECK.due("one bit of the NAMING", x.plain(16 << k), 3);
            CHECK.due("all but one", x.plain(4080 - (16 << k)), 3);
        }
        int[] ways = {0, 12, 10, 6};
        int[] wayHangs = {0, 1, 1, 2};
        int[] namings = {0, 0xf0, 0xcc, 0xaa, 0x3c, 0x5a, 0x66, 0x96, 255};
        int[] namingHangs = {0, 1, 1, 1, 2, 2, 2, 3, 0};
        CHECK.about("Section 4: PLAIN is by how many of d, r, d, r, DEED: in all");
        for (int i = 0; i < ways.length; i++) {
            for (int j = 0; j < namings.length; j++) {
                CHECK.due("plain", x.plain(16 * namings[j] + ways[i]), wayHangs[i] + namingHangs[j]);
            }
        }
    }

    // ---- bears

    private static void bearsBounds() {
        CHECK.about("18: BEARS (0 .. 50); NONE. OUTSIDE");
        SaidOfHim x = new SaidOfHim();
        for (int rule : NO_RULES) CHECK.due("rule " + rule, x.bears(rule), OUTSIDE);
        CHECK.due("every EYE", x.bears(0), 50);
        CHECK.due("no EYE", x.bears(4095), NONE);
        CHECK.due("EYE 0 alone", x.bears(4087), 0);
        CHECK.due("EYE stays as told", x.village(3), 1);
    }

    private static void bearsUpTo(String text, int rule, int top) {
        CHECK.due("'" + text + "' bears(" + rule + ")", Check.village(text).bears(rule), top);
        for (int e = 0; e <= top; e++) CHECK.due("EYE " + e, Check.village(text + "eye " + e + ";").holds(rule), 1);
        if (top < 50) CHECK.holds("EYE " + (top + 1), Check.village(text + "eye " + (top + 1) + ";").holds(rule) != 1);
    }

    private static void bearsEachEye() {
        CHECK.about("Section 4: the greatest EYE e so that with each EYE from 0 to e (all else as told) a RULE HOLDS");
        bearsUpTo("", BASIC, 33);
        bearsUpTo("", 0, 50);
        bearsUpTo("", 4087, 0);
        bearsUpTo("", 4095, NONE);
        bearsUpTo("cost 0;worth 0;hand 50;", 15, 50);
        bearsUpTo("cost 4;worth 11;hand 0;fade 2 new 1;", 2458, 31);
        CHECK.about("Section 4: with each EYE: one that fails in between is the end of it");
        SaidOfHim x = Check.village("eye 10;");
        CHECK.due("it HOLDS at 10", x.holds(3064), 1);
        CHECK.holds("and at 0", x.bears(3064) >= 0);
        CHECK.holds("but not all the way", x.bears(3064) < 10);
        x = Check.village("eye 25;");
        CHECK.due("it HOLDS at 25", x.holds(3056), 1);
        CHECK.due("but not at 0", x.bears(3056), NONE);
        CHECK.about("18: whatever EYE is told");
        for (int e = 0; e <= 50; e += 10) CHECK.due("EYE " + e, Check.village("eye " + e + ";").bears(BASIC), 33);
        CHECK.about("Section 4: BEARS asks whether it HOLDS, not for LEAST");
        x = new SaidOfHim();
        x.least(999999);
        CHECK.due("LEAST 999999", x.bears(BASIC), 33);
    }

    // ---- turned

    private static void turnedBounds() {
        CHECK.about("19: TURNED about: the RULE. OUTSIDE");
        SaidOfHim x = new SaidOfHim();
        for (int rule : NO_RULES) CHECK.due("rule " + rule, x.turned(rule), OUTSIDE);
        CHECK.due("the first", x.turned(0), 4080);
        CHECK.due("the last", x.turned(4095), 15);
        CHECK.about("Section 4: NAMES the other way round, given and called");
        for (int k = 0; k < 4; k++) CHECK.due("bit of the WAY " + k, x.turned(1 << k), 4080 + (8 >> k));
        int[] places = {6, 7, 4, 5, 2, 3, 0, 1};
        for (int k = 0; k < 8; k++) CHECK.due("bit of the NAMING " + k, x.turned(16 << k), 4080 - (16 << places[k]));
    }

    private static void turnedTwice() {
        CHECK.about("Section 4: TURNED about twice it is itself; some are once");
        int same = 0;
        for (int rule = 0; rule < 4096; rule++) {
            SaidOfHim x = new SaidOfHim();
            int turned = x.turned(rule);
            CHECK.holds("a RULE", turned >= 0 && turned < 4096);
            CHECK.due("twice " + rule, x.turned(turned), rule);
            if (turned == rule) same++;
        }
        // two free bits of the WAY, four of the NAMING
        CHECK.due("themselves", same, 4 * 16);
    }

    // ---- kinds

    private static void kindsOfNone() {
        CHECK.about("20: of HOLDING ones how many there are: none");
        CHECK.due("none", Check.village("worth 0;").kinds(), 0);
        SaidOfHim x = new SaidOfHim();
        CHECK.due("all", x.kinds(), 63);
        x.least(999999);
        CHECK.due("none", x.kinds(), 0);
        x.least(aid(x, 1309) - 1);
        CHECK.due("those HELPED most", x.kinds(), kindsByHand("", aid(x, 1309) - 1)[0]);
        x.least(0);
        CHECK.due("all again", x.kinds(), 63);
    }

    /** How many kinds, and of these: those that are their own twin, those whose twin is not HOLDING. */
    private static int[] kindsByHand(String text, int least) {
        boolean[] holding = new boolean[4096];
        for (int rule = 0; rule < 4096; rule++) {
            SaidOfHim x = Check.village(text);
            holding[rule] = x.holds(rule) == 1 && aid(x, rule) > least;
        }
        int[] count = new int[3];
        SaidOfHim x = new SaidOfHim();
        for (int rule = 0; rule < 4096; rule++) {
            if (rule % 400 == 0) x = new SaidOfHim();
            int twin = x.turned(rule);
            if (!holding[rule] || twin < rule && holding[twin]) continue;
            count[0]++;
            if (twin == rule) count[1]++;
            if (!holding[twin]) count[2]++;
        }
        return count;
    }

    private static void kindsOfSameOnes() {
        CHECK.about("20: SAME ones counted once");
        for (String text : new String[] {"", "hand 0;", "hand 0;eye 0;fade 1;", "cost 0;", "worth 99;cost 1;"}) {
            int[] due = kindsByHand(text, 0);
            CHECK.due("kinds '" + text + "'", Check.village(text).kinds(), due[0]);
        }
        CHECK.about("20: one that is its own TURNED about is one");
        CHECK.due("own twins", kindsByHand("hand 0;eye 0;fade 1;", 0)[1], 2);
        CHECK.about("20: one whose TURNED about is not HOLDING is one");
        CHECK.due("without a twin", kindsByHand("hand 0;eye 0;fade 1;", 0)[2], 114);
    }

    private static void holding(String when, SaidOfHim x, int... due) {
        CHECK.due(when + " all(NONE)", x.all(NONE), due[0]);
        CHECK.due(when + " all(0)", x.all(0), due[1]);
        CHECK.due(when + " kinds()", x.kinds(), due[2]);
        for (int what = 0; what < 3; what++) CHECK.due(when + " best(" + what + ")", x.best(what), due[3 + what]);
    }

    private static void holdingGoesWithTheVillage() {
        CHECK.about("15, 16, 20: of THE VILLAGE as it is told now");
        SaidOfHim x = new SaidOfHim();
        int[] first = {118, 17, 63, 1309, 277, 1309};
        holding("at first", x, first);
        Check.tell(x, "hand 0;eye 0;");
        holding("without errors", x, 442, 17, 306, 17, 2732, 3349);
        Check.tell(x, "hand 0;eye 51;");
        holding("behind a FAULT", x, 442, 17, 306, 17, 2732, 3349);
        Check.tell(x, "worth 0;");
        holding("none", x, 0, NONE, 0, NONE, NONE, NONE);
        x.read();
        holding("as at first", x, first);
        CHECK.about("15, 16, 20: calls in between that try other EYES and RULES change nothing");
        x.bears(0);
        x.holds(4095);
        x.other(17, 3, 4, 2);
        x.from(80, 0, 1);
        holding("as at first", x, first);
    }
}
