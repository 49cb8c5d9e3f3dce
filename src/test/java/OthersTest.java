/** Promises 12 to 20: other, gain, holds, all, best, plain, bears, turned, kinds. */
public final class OthersTest {
    private static final Check CHECK = new Check("OthersTest");
    private static final int OUTSIDE = SaidOfHim.OUTSIDE, NONE = SaidOfHim.NONE;
    private static final int BASIC = 16 * 153 + 10;
    private static final int FLIP = 16 * 15;
    private static final int STAY = 16 * 240;
    private static final int LONE = 16 * 171;

    public static void main(String[] args) {
        other();
        gain();
        holds();
        all();
        best();
        plain();
        bears();
        turned();
        kinds();
        surveyGoesWithTheVillage();
        refused();
        CHECK.end();
    }

    private static void fraction(SaidOfHim x, int[] at, int what, long upper, long lower) {
        String call = "other(" + at[0] + ", " + at[1] + ", " + at[2] + ") ";
        CHECK.due(call + what, x.other(at[0], at[1], at[2], what), upper);
        CHECK.due(call + (what + 1), x.other(at[0], at[1], at[2], what + 1), lower);
    }

    private static void other() {
        SaidOfHim x = Check.village("hand 0;eye 0;");
        // what never is left is 0 by 1: always BAD
        fraction(x, new int[] {STAY + 15, 15, 400}, 0, 0, 1);
        fraction(x, new int[] {STAY + 15, 15, 400}, 2, 2, 1);
        fraction(x, new int[] {STAY + 10, 15, 400}, 2, -1, 1);
        fraction(x, new int[] {STAY + 10, 0, 400}, 2, 0, 1);
        fraction(x, new int[] {STAY + 10, 1, 400}, 2, -3, 5);
        fraction(x, new int[] {STAY + 10, 2, 400}, 2, -2, 5);
        fraction(x, new int[] {STAY + 10, 12, 400}, 2, 0, 1);
        // BAD and GOOD by turns: half of the time each
        fraction(x, new int[] {FLIP, 0, 123}, 0, 1, 2);
        fraction(x, new int[] {FLIP + 10, 0, 123}, 2, 3, 2);
        fraction(x, new int[] {FLIP + 2, 0, 250}, 2, 9, 8);
        fraction(x, new int[] {FLIP + 8, 0, 250}, 2, 3, 8);
        fraction(x, new int[] {FLIP + 1, 0, 250}, 2, 9, 8);
        fraction(x, new int[] {FLIP + 4, 0, 250}, 2, 3, 8);
        fraction(x, new int[] {FLIP, 4, 250}, 2, -3, 8);
        fraction(x, new int[] {FLIP, 8, 250}, 2, -1, 8);
        fraction(x, new int[] {4080, 0, 0}, 0, 1, 1);
        fraction(x, new int[] {0, 0, 1000}, 0, 0, 1);
        x = new SaidOfHim();
        fraction(x, new int[] {BASIC, 10, 980}, 0, 245099, 250000);
        fraction(x, new int[] {BASIC, 10, 980}, 2, 48539403, 25000000);
        fraction(x, new int[] {BASIC, 0, 980}, 2, 10989, 125000);
        x = Check.village("fade 99 new 0;");
        fraction(x, new int[] {BASIC, 10, 980}, 0, 245099, 250000);
        x = Check.village("cost 0;worth 0;");
        fraction(x, new int[] {BASIC, 10, 980}, 2, 0, 1);
        x = Check.village("cost 99;worth 99;hand 37;eye 13;");
        fraction(x, new int[] {0, 15, 1}, 2, -6237, 100);
        fraction(x, new int[] {15, 0, 1}, 2, 6237, 100);
        fraction(x, new int[] {15, 15, 1}, 2, 0, 1);
    }

    private static void gain() {
        SaidOfHim x = new SaidOfHim();
        CHECK.due("to help nobody", x.gain(BASIC, 0, 980), -1);
        CHECK.due("to help all", x.gain(BASIC, 15, 980), -1);
        for (int rule = 0; rule < 4096; rule += 77) CHECK.due("the own WAY", x.gain(rule, rule % 16, 500), 0);
        CHECK.due("among helpers whatever one does", x.gain(4095, 0, 990), 1);
        CHECK.due("to help where it is for nothing", x.gain(4080, 1, 990), -1);
        x = Check.village("cost 0;");
        CHECK.due("what costs nothing", x.gain(15, 0, 500), 0);
        x = Check.village("hand 0;eye 0;");
        CHECK.due("what never comes", x.gain(15, 14, 0), 1);
        CHECK.due("what never comes", x.gain(15, 13, 0), 0);
    }

    private static void holds() {
        SaidOfHim x = Check.village("hand 0;eye 0;");
        CHECK.due("holds", x.holds(BASIC), 1);
        CHECK.due("none helps", x.holds(0), 1);
        CHECK.due("no rest", x.holds(LONE), 0);
        CHECK.due("way 0 gains", x.holds(15), -2);
        CHECK.due("way 0 gains", x.holds(4095), -2);
        x = new SaidOfHim();
        CHECK.due("way 10 gains", x.holds(2459), -12);
        CHECK.due("way 8 gains", x.holds(2875), -10);
        CHECK.due("holds", x.holds(3002), 1);
        int seen = 0;
        for (int rule = 0; rule < 4096; rule += 5) {
            int due = holdsByHand(new SaidOfHim(), rule);
            CHECK.due("holds(" + rule + ")", new SaidOfHim().holds(rule), due);
            if (due < -1) seen |= 1 << (-2 - due);
        }
        CHECK.holds("several WAYS were the first to gain", Integer.bitCount(seen) > 3);
    }

    private static int holdsByHand(SaidOfHim x, int rule) {
        int rest = x.from(rule, 500, 0);
        if (rest == NONE) return 0;
        for (int q = 0; q < 16; q++) if (x.gain(rule, q, rest) == 1) return -2 - q;
        return 1;
    }

    private static int aid(SaidOfHim x, int rule) {
        return x.helped(rule, x.from(rule, 500, 0));
    }

    private static void all() {
        SaidOfHim x = new SaidOfHim();
        CHECK.due("all", x.all(NONE), 118);
        int i = 0;
        for (int rule = 0; rule < 4096; rule++) {
            SaidOfHim y = new SaidOfHim();
            if (y.holds(rule) == 1 && aid(y, rule) > 0) CHECK.due("all(" + i + ")", x.all(i++), rule);
        }
        CHECK.due("all of them", i, 118);
        CHECK.due("behind the last", x.all(118), NONE);
        CHECK.due("far behind", x.all(Integer.MAX_VALUE), NONE);
        CHECK.due("below", x.all(-2), NONE);
        CHECK.due("far below", x.all(Integer.MIN_VALUE), NONE);
        int most = aid(x, 1309);
        x.least(most - 1);
        CHECK.holds("more than LEAST", x.all(NONE) > 0);
        x.least(most);
        CHECK.due("not as much as LEAST", x.all(NONE), 0);
        CHECK.due("none is the first", x.all(0), NONE);
        x.least(0);
        CHECK.due("back again", x.all(NONE), 118);
    }

    private static void best() {
        SaidOfHim x = new SaidOfHim();
        CHECK.due("most helped", x.best(0), 1309);
        CHECK.due("plainest", x.best(1), 277);
        CHECK.due("bears most", x.best(2), 1309);
        byHand("");
        x.least(aid(x, 1309));
        for (int what = 0; what < 3; what++) CHECK.due("none", x.best(what), NONE);
        x.least(aid(x, 1309) - 1);
        for (int what = 0; what < 3; what++) CHECK.holds("one", x.best(what) >= 0);
        byHand("cost 2;worth 5;hand 0;eye 0;");
        byHand("cost 1;worth 2;hand 10;eye 0;fade 5;");
        byHand("cost 0;worth 0;eye 7;");
        for (int what : new int[] {-1, 3, Integer.MIN_VALUE, Integer.MAX_VALUE}) CHECK.due("best", x.best(what), OUTSIDE);
    }

    /** The HOLDING RULES, with a new object for every few calls: one answers 512 and no more. */
    private static int[] holding(String text) {
        SaidOfHim x = Check.village(text);
        int[] rules = new int[x.all(NONE)];
        for (int i = 0; i < rules.length; i++) {
            if (i % 400 == 399) x = Check.village(text);
            rules[i] = x.all(i);
        }
        return rules;
    }

    private static void byHand(String text) {
        int most = NONE;
        int plain = NONE;
        int firm = NONE;
        int mostAid = NONE;
        int fewest = 6;
        int firmest = -2;
        int[] rules = holding(text);
        for (int rule : rules) {
            SaidOfHim x = Check.village(text);
            if (aid(x, rule) > mostAid) {
                most = rule;
                mostAid = aid(x, rule);
            }
            if (x.plain(rule) < fewest) {
                plain = rule;
                fewest = x.plain(rule);
            }
        }
        for (int rule : rules) {
            SaidOfHim x = Check.village(text);
            if (aid(x, rule) != mostAid || x.bears(rule) <= firmest) continue;
            firm = rule;
            firmest = x.bears(rule);
        }
        SaidOfHim x = Check.village(text);
        CHECK.due("best(0)", x.best(0), most);
        CHECK.due("best(1)", x.best(1), plain);
        CHECK.due("best(2)", x.best(2), firm);
    }

    private static void plain() {
        SaidOfHim x = new SaidOfHim();
        CHECK.due("on nothing", x.plain(0), 0);
        CHECK.due("on nothing", x.plain(4095), 0);
        CHECK.due("WAY on d", x.plain(12), 1);
        CHECK.due("WAY on r", x.plain(10), 1);
        CHECK.due("WAY on both", x.plain(1), 2);
        CHECK.due("WAY on both", x.plain(6), 2);
        CHECK.due("NAMING on d", x.plain(16 * 0xf0), 1);
        CHECK.due("NAMING on r", x.plain(16 * 0xcc), 1);
        CHECK.due("NAMING on the DEED", x.plain(16 * 0xaa), 1);
        CHECK.due("NAMING on d and r", x.plain(16 * 0xc3), 2);
        CHECK.due("NAMING on d and the DEED", x.plain(16 * 0xa5), 2);
        CHECK.due("r and the DEED, and r", x.plain(BASIC), 3);
        CHECK.due("on all", x.plain(16 * 1 + 8), 5);
    }

    private static void bears() {
        SaidOfHim x = new SaidOfHim();
        CHECK.due("bears", x.bears(BASIC), 33);
        CHECK.due("all", x.bears(0), 50);
        CHECK.due("none", x.bears(2459), NONE);
        CHECK.due("none", x.bears(4095), NONE);
        for (int rule = 17; rule < 4096; rule += 97) {
            int e = 0;
            while (e <= 50 && Check.village("eye " + e + ";").holds(rule) == 1) e++;
            CHECK.due("bears(" + rule + ")", x.bears(rule), e - 1);
        }
        CHECK.due("EYE stays", x.village(3), 1);
        CHECK.due("EYE is tried, not told", Check.village("eye 44;").bears(BASIC), 33);
        CHECK.due("with all else as told", Check.village("worth 2;").bears(BASIC), bearsByHand("worth 2;"));
        CHECK.due("with all else as told", Check.village("hand 20;fade 9 new 0;").bears(BASIC), bearsByHand("hand 20;fade 9 new 0;"));
    }

    private static int bearsByHand(String text) {
        int e = 0;
        while (e <= 50 && Check.village(text + "eye " + e + ";").holds(BASIC) == 1) e++;
        return e - 1;
    }

    private static void turned() {
        SaidOfHim x = new SaidOfHim();
        CHECK.due("turned", x.turned(0), 4080);
        CHECK.due("turned", x.turned(4095), 15);
        CHECK.due("turned", x.turned(10), 4085);
        CHECK.due("turned", x.turned(BASIC), 2453);
        CHECK.due("one bit of the WAY", x.turned(1), 4080 + 8);
        CHECK.due("one bit of the WAY", x.turned(2), 4080 + 4);
        CHECK.due("one bit of the NAMING", x.turned(16 * 1), 16 * (255 - 64));
        CHECK.due("one bit of the NAMING", x.turned(16 * 2), 16 * (255 - 128));
        CHECK.due("one bit of the NAMING", x.turned(16 * 4), 16 * (255 - 16));
        for (int rule = 0; rule < 4096; rule += 17) CHECK.due("twice", x.turned(x.turned(rule)), rule);
    }

    private static void kinds() {
        for (String text : new String[] {"", "hand 0;eye 0;", "fade 10 new 0;", "fade 10;worth 9;", "cost 0;"}) {
            int[] rules = holding(text);
            for (int least : new int[] {0, 300000, 900000}) {
                boolean[] named = new boolean[4096];
                int kinds = 0;
                for (int rule : rules) {
                    SaidOfHim x = Check.village(text);
                    if (aid(x, rule) <= least) continue;
                    if (!named[rule]) kinds++;
                    named[rule] = true;
                    named[x.turned(rule)] = true;
                }
                SaidOfHim x = Check.village(text);
                x.least(least);
                CHECK.due("kinds '" + text + "' " + least, x.kinds(), kinds);
            }
        }
        CHECK.due("kinds", new SaidOfHim().kinds(), 63);
    }

    private static void surveyGoesWithTheVillage() {
        SaidOfHim x = new SaidOfHim();
        CHECK.due("at first", x.all(NONE), 118);
        CHECK.due("at first", x.best(2), 1309);
        Check.tell(x, "cost 2;worth 5;hand 0;eye 0;");
        CHECK.due("told", x.best(2), 3349);
        CHECK.due("told", x.all(NONE), 390);
        Check.tell(x, "cost 200;");
        CHECK.due("behind a fault", x.all(NONE), 390);
        x.bears(0);
        x.holds(4095);
        CHECK.due("others asked in between", x.best(2), 3349);
        x.read();
        CHECK.due("as at first", x.best(2), 1309);
        CHECK.due("as at first", x.kinds(), 63);
    }

    private static void refused() {
        SaidOfHim x = new SaidOfHim();
        for (int bad : new int[] {-1, 4096, Integer.MIN_VALUE, Integer.MAX_VALUE}) {
            CHECK.due("other rule", x.other(bad, 0, 0, 0), OUTSIDE);
            CHECK.due("gain rule", x.gain(bad, 0, 0), OUTSIDE);
            CHECK.due("holds rule", x.holds(bad), OUTSIDE);
            CHECK.due("plain rule", x.plain(bad), OUTSIDE);
            CHECK.due("bears rule", x.bears(bad), OUTSIDE);
            CHECK.due("turned rule", x.turned(bad), OUTSIDE);
        }
        for (int bad : new int[] {-1, 16, Integer.MIN_VALUE, Integer.MAX_VALUE}) {
            CHECK.due("other way", x.other(0, bad, 0, 0), OUTSIDE);
            CHECK.due("gain way", x.gain(0, bad, 0), OUTSIDE);
        }
        for (int bad : new int[] {-1, 1001, Integer.MIN_VALUE, Integer.MAX_VALUE}) {
            CHECK.due("other share", x.other(0, 0, bad, 0), OUTSIDE);
            CHECK.due("gain share", x.gain(0, 0, bad), OUTSIDE);
        }
        for (int bad : new int[] {-1, 4, Integer.MIN_VALUE, Integer.MAX_VALUE}) CHECK.due("other what", x.other(0, 0, 0, bad), OUTSIDE);
        CHECK.holds("nothing changed", Check.state(x).equals(Check.state(new SaidOfHim())));
    }
}
