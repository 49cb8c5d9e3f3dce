/** The edges of step, from, helped and fit (promises 8 to 11, section 3), a test for each sentence that names one. */
public final class SharesEdgesTest {
    private static final Check CHECK = new Check("SharesEdgesTest");
    private static final int OUTSIDE = SaidOfHim.OUTSIDE, NONE = SaidOfHim.NONE;
    private static final int BASIC = 16 * 153 + 10;
    /** Without errors: who was BAD is GOOD then, and the other way round. */
    private static final int FLIP = 16 * 15;
    /** Without errors: everyone stays what one was. */
    private static final int STAY = 16 * 240;
    /** Nobody helps; GOOD is called who was BAD towards one that is BAD. */
    private static final int LONE = 16;
    private static final int[] NO_RULES = {-1, 4096, Integer.MIN_VALUE, Integer.MAX_VALUE};
    private static final int[] NO_SHARES = {-1, 1001, Integer.MIN_VALUE, Integer.MAX_VALUE};

    public static void main(String[] args) {
        stepBounds();
        stepAtTheEnds();
        stepCuts();
        stepFades();
        stepErrs();
        fromBounds();
        fromRest();
        fromRing();
        fromFar();
        helpedBounds();
        helpedEnds();
        helpedCuts();
        fitBounds();
        fitNoneAndAll();
        CHECK.end();
    }

    private static SaidOfHim faultless() {
        return Check.village("hand 0;eye 0;");
    }

    private static void stepBounds() {
        CHECK.about("8: a STEP (RULE 0 .. 4095) from a SHARE (0 .. 1000). OUTSIDE");
        SaidOfHim x = new SaidOfHim();
        for (int rule : NO_RULES) CHECK.due("step(" + rule + ")", x.step(rule, 500), OUTSIDE);
        for (int share : NO_SHARES) CHECK.due("step " + share, x.step(BASIC, share), OUTSIDE);
        CHECK.due("both", x.step(-1, -1), OUTSIDE);
        CHECK.due("the first of both", x.step(0, 0), 10);
        CHECK.due("the last of both", x.step(4095, 1000), 990);
    }

    private static void stepAtTheEnds() {
        CHECK.about("Section 3: THE SHARE of the GOOD is in thousandths (0 .. 1000): all and none");
        SaidOfHim x = faultless();
        for (int share = 0; share <= 1000; share += 125) {
            CHECK.due("nobody is called GOOD", x.step(0, share), 0);
            CHECK.due("all are called GOOD", x.step(4080, share), 1000);
            CHECK.due("all stay", x.step(STAY, share), share);
            CHECK.due("all turn", x.step(FLIP, share), 1000 - share);
        }
        CHECK.about("Section 3: each d and r come with the SHARE of the one times that of the other");
        for (int k = 0; k < 4; k++) {
            // GOOD is called at one d and r alone, whatever was done
            int rule = 16 * (3 << 2 * k);
            int[] often = {640, 160, 160, 40};
            CHECK.due("d, r " + k, x.step(rule, 200), often[k]);
            CHECK.due("d, r " + k + " with all GOOD", x.step(rule, 1000), k == 3 ? 1000 : 0);
            CHECK.due("d, r " + k + " with all BAD", x.step(rule, 0), k == 0 ? 1000 : 0);
        }
    }

    private static void stepCuts() {
        CHECK.about("Section 3: G / 10 to the 7 is the SHARE (cut)");
        SaidOfHim x = faultless();
        CHECK.due("998.001", x.step(LONE, 1), 998);
        CHECK.due("562.5", x.step(LONE, 250), 562);
        CHECK.due("0.999 and a bit", x.step(LONE, 1000 - 31), 0);
        CHECK.due("1.024", x.step(LONE, 1000 - 32), 1);
        x = Check.village("hand 33;eye 17;");
        // helps 67: 67 * 83 + 33 * 17 = 6122 of 10 to the 4
        CHECK.due("612.2", x.step(16 * 0xaa + 15, 400), 612);
        CHECK.due("(1000 - 612.2)", x.step(16 * 0x55 + 15, 400), 387);
        // G is 5099999996
        CHECK.due("509.9999996", Check.village("hand 2;eye 49;").step(3064, 1), 509);
        // G is 5019999900
        CHECK.due("501.99999", Check.village("hand 2;eye 25;").step(468, 501), 501);
    }

    private static void stepFades() {
        CHECK.about("Section 3: then (100 less FADE) times it, and FADE times 1000 times NEW, / 100 (cut)");
        // 101.761 is cut to 101 first; 99 times that is 99.99; cut but once it would be 100
        CHECK.due("cut twice", Check.village("hand 0;eye 0;fade 1 new 0;").step(LONE, 681), 99);
        CHECK.due("cut twice, GOOD", Check.village("hand 0;eye 0;fade 1;").step(LONE, 681), 109);
        CHECK.due("FADE 0, NEW 0", Check.village("hand 0;eye 0;fade 0 new 0;").step(STAY, 777), 777);
        CHECK.due("FADE 0, NEW 1", Check.village("hand 0;eye 0;fade 0 new 1;").step(STAY, 777), 777);
        CHECK.due("FADE 99, NEW 0", Check.village("hand 0;eye 0;fade 99 new 0;").step(STAY, 1000), 10);
        CHECK.due("FADE 99, NEW 0", Check.village("hand 0;eye 0;fade 99 new 0;").step(STAY, 99), 0);
        CHECK.due("FADE 99, NEW 1", Check.village("hand 0;eye 0;fade 99;").step(STAY, 1000), 1000);
        CHECK.due("FADE 99, NEW 1", Check.village("hand 0;eye 0;fade 99;").step(STAY, 99), 990);
        CHECK.due("FADE 99, NEW 1", Check.village("hand 0;eye 0;fade 99;").step(STAY, 100), 991);
    }

    private static void stepErrs() {
        CHECK.about("Section 1: HAND (0 .. 50): how often who means to help does not");
        int helpers = 16 * 0xaa + 15;
        CHECK.due("HAND 0", Check.village("eye 0;hand 0;").step(helpers, 300), 1000);
        CHECK.due("HAND 50", Check.village("eye 0;hand 50;").step(helpers, 300), 500);
        CHECK.due("who does not mean to never does", Check.village("eye 0;hand 50;").step(16 * 0xaa, 300), 0);
        CHECK.about("Section 1: EYE (0 .. 50): how often the NAME is taken for the other one");
        CHECK.due("EYE 0", Check.village("eye 0;hand 0;").step(4080, 300), 1000);
        for (int rule = 0; rule < 4096; rule += 273) {
            CHECK.due("EYE 50", Check.village("eye 50;").step(rule, 300), 500);
            CHECK.due("both 50", Check.village("eye 50;hand 50;").step(rule, 300), 500);
        }
        CHECK.due("HAND 50, EYE 49", Check.village("eye 49;hand 50;").step(4080, 300), 510);
    }

    private static void fromBounds() {
        CHECK.about("9: FROM a SHARE: what = 0, 1, 2. OUTSIDE");
        SaidOfHim x = new SaidOfHim();
        for (int rule : NO_RULES) CHECK.due("rule " + rule, x.from(rule, 500, 0), OUTSIDE);
        for (int share : NO_SHARES) CHECK.due("share " + share, x.from(BASIC, share, 0), OUTSIDE);
        for (int what : new int[] {-1, 3, Integer.MIN_VALUE, Integer.MAX_VALUE}) CHECK.due("what " + what, x.from(BASIC, 500, what), OUTSIDE);
        CHECK.due("the first of all", x.from(0, 0, 0), 10);
        CHECK.due("the last of all", x.from(4095, 1000, 2), 1);
    }

    private static void walk(SaidOfHim x, int rule, int share, int rest, int lead, int ring) {
        String at = "from(" + rule + ", " + share + ", ";
        CHECK.due(at + "0)", x.from(rule, share, 0), rest);
        CHECK.due(at + "1)", x.from(rule, share, 1), lead);
        CHECK.due(at + "2)", x.from(rule, share, 2), ring);
    }

    private static void fromRest() {
        CHECK.about("Section 3: THE REST, if it is the same from STEP to STEP");
        SaidOfHim x = faultless();
        walk(x, STAY, 0, 0, 0, 1);
        walk(x, STAY, 1, 1, 0, 1);
        walk(x, STAY, 1000, 1000, 0, 1);
        walk(x, 0, 0, 0, 0, 1);
        walk(x, 0, 1, 0, 1, 1);
        walk(x, 0, 1000, 0, 1, 1);
        walk(x, 4080, 0, 1000, 1, 1);
        walk(x, 4080, 1000, 1000, 0, 1);
        // 500 250 62 3 0
        walk(x, 16 * 0xc0, 500, 0, 4, 1);
        walk(x, FLIP, 500, 500, 0, 1);
    }

    private static void fromRing() {
        CHECK.about("9: THE REST (NONE: THE RING); how many come again");
        SaidOfHim x = faultless();
        walk(x, FLIP, 0, NONE, 0, 2);
        walk(x, FLIP, 499, NONE, 0, 2);
        walk(x, FLIP, 1000, NONE, 0, 2);
        CHECK.about("9: STEPS till the first SHARE that comes again is there for the first time");
        // 500 250 562 191 654 119 776 50 902 9 982 0 1000 0
        walk(x, 16 * 3, 500, NONE, 11, 2);
        walk(x, 16 * 3, 0, NONE, 0, 2);
        walk(x, 16 * 3, 1000, NONE, 0, 2);
        walk(x, 16 * 3, 982, NONE, 1, 2);
        CHECK.due("asked again", x.from(16 * 3, 500, 1), 11);
    }

    /** A walk told by step alone, never more than some hundred calls of one object: rest, lead and ring. */
    private static int[] byHand(String text, int rule, int start) {
        int[] first = new int[1001];
        int share = start;
        int n = 0;
        SaidOfHim x = Check.village(text);
        while (first[share] == 0) {
            first[share] = ++n;
            if (n % 200 == 0) x = Check.village(text);
            share = x.step(rule, share);
        }
        int ring = n + 1 - first[share];
        return new int[] {ring == 1 ? share : NONE, first[share] - 1, ring};
    }

    private static void far(String text, int rule, int start, int lead) {
        int[] due = byHand(text, rule, start);
        CHECK.due("'" + text + "' by hand", due[1], lead);
        walk(Check.village(text), rule, start, due[0], due[1], due[2]);
    }

    private static void fromFar() {
        CHECK.about("Section 3: FROM a SHARE STEPS go on till one comes again, however far");
        far("hand 13;eye 0;", 668, 388, 554);
        far("eye 0;", 1349, 150, 514);
        far("hand 0;eye 0;fade 1;", 80, 0, 349);
        far("hand 0;eye 0;fade 1 new 0;", 80, 1000, 349);
        far("", 80, 0, 211);
        far("eye 50;", 80, 0, 1);
    }

    private static void helpedBounds() {
        CHECK.about("10: HELPED. OUTSIDE");
        SaidOfHim x = new SaidOfHim();
        for (int rule : NO_RULES) CHECK.due("rule " + rule, x.helped(rule, 500), OUTSIDE);
        for (int share : NO_SHARES) CHECK.due("share " + share, x.helped(BASIC, share), OUTSIDE);
        CHECK.due("the first of both", x.helped(0, 0), 0);
        CHECK.due("the last of both", x.helped(4095, 1000), 990000);
    }

    private static void helpedEnds() {
        CHECK.about("Section 3: HELPED: how many of a million MEETINGS, from none to all");
        SaidOfHim x = faultless();
        CHECK.due("all", x.helped(15, 0), 1000000);
        CHECK.due("all", x.helped(15, 333), 1000000);
        CHECK.due("all", x.helped(15, 1000), 1000000);
        CHECK.due("none", x.helped(4080, 333), 0);
        for (int k = 0; k < 4; k++) {
            int[] often = {640000, 160000, 160000, 40000};
            CHECK.due("d, r " + k, x.helped(1 << k, 200), often[k]);
            CHECK.due("d, r " + k + " with all GOOD", x.helped(1 << k, 1000), k == 3 ? 1000000 : 0);
            CHECK.due("d, r " + k + " with all BAD", x.helped(1 << k, 0), k == 0 ? 1000000 : 0);
        }
        CHECK.due("HAND 50", Check.village("hand 50;").helped(15, 333), 500000);
        CHECK.due("EYE and FADE are left out", Check.village("hand 0;eye 50;fade 99 new 0;").helped(15, 333), 1000000);
    }

    private static void helpedCuts() {
        CHECK.about("Section 3: the sum times (100 less HAND) / 100 (cut)");
        SaidOfHim x = new SaidOfHim();
        CHECK.due("0.99", x.helped(1, 999), 0);
        CHECK.due("48.51", x.helped(1, 993), 48);
        CHECK.due("989.01", x.helped(2, 999), 989);
        // each of both by itself would be 16543.89 and 956626.11
        CHECK.due("the sum is cut, not each", x.helped(10, 983), 973170);
        CHECK.due("0.5", Check.village("hand 50;").helped(1, 999), 0);
        CHECK.due("4.5", Check.village("hand 50;").helped(1, 997), 4);
    }

    private static void fitBounds() {
        CHECK.about("11: i = NONE how many, else the i-th; NONE. OUTSIDE (the RULE)");
        SaidOfHim x = faultless();
        for (int rule : NO_RULES) {
            CHECK.due("rule " + rule, x.fit(rule, NONE), OUTSIDE);
            CHECK.due("rule " + rule, x.fit(rule, 0), OUTSIDE);
            CHECK.due("rule " + rule, x.fit(rule, -2), OUTSIDE);
            CHECK.due("rule " + rule, x.fit(rule, 2000), OUTSIDE);
        }
        // x times x: 0 and 1000 alone
        int square = 16 * 0xc0;
        CHECK.due("how many", x.fit(square, NONE), 2);
        CHECK.due("the first", x.fit(square, 0), 0);
        CHECK.due("the last", x.fit(square, 1), 1000);
        CHECK.due("behind the last", x.fit(square, 2), NONE);
        CHECK.due("ahead of NONE", x.fit(square, -2), NONE);
        for (int i : Check.FAR) CHECK.due("far off", x.fit(square, i), NONE);
    }

    private static void fitNoneAndAll() {
        CHECK.about("Section 3: FIT of a RULE: SHARES (0 .. 1000) that a STEP leaves as they are: none, all");
        SaidOfHim x = faultless();
        CHECK.due("all", x.fit(STAY, NONE), 1001);
        CHECK.due("the first of all", x.fit(STAY, 0), 0);
        CHECK.due("the last of all", x.fit(STAY, 1000), 1000);
        CHECK.due("behind all", x.fit(STAY, 1001), NONE);
        CHECK.due("none", x.fit(16 * 3, NONE), 0);
        CHECK.due("the first of none", x.fit(16 * 3, 0), NONE);
        x = Check.village("hand 0;eye 0;fade 1 new 0;");
        CHECK.due("0 alone", x.fit(STAY, NONE), 1);
        CHECK.due("0 alone", x.fit(STAY, 0), 0);
        x = Check.village("hand 0;eye 0;fade 1;");
        // (99 x + 1000) / 100 is x, if 1000 less x is below 100
        CHECK.due("901 and above", x.fit(STAY, NONE), 100);
        CHECK.due("901 and above", x.fit(STAY, 0), 901);
        CHECK.due("901 and above", x.fit(STAY, 99), 1000);
        CHECK.due("the EYE shut", Check.village("eye 50;").fit(BASIC, 0), 500);
        CHECK.due("the EYE shut", Check.village("eye 50;").fit(BASIC, NONE), 1);
    }
}
