/** Promises 8 to 11: step, from, helped, fit. */
public final class SharesTest {
    private static final Check CHECK = new Check("SharesTest");
    private static final int OUTSIDE = SaidOfHim.OUTSIDE, NONE = SaidOfHim.NONE;
    private static final int BASIC = 16 * 153 + 10;
    /** Without errors: who was BAD is GOOD then, and the other way round. */
    private static final int FLIP = 16 * 15;
    /** Without errors: everyone stays what one was. */
    private static final int STAY = 16 * 240;
    /** Nobody helps; GOOD is called who was BAD towards one that is BAD. */
    private static final int LONE = 16 * 171;

    public static void main(String[] args) {
        step();
        from();
        helped();
        fit();
        refused();
        CHECK.end();
    }

    private static void step() {
        SaidOfHim x = new SaidOfHim();
        // towards the GOOD: 99 * 99 + 1 * 1 of 10 to the 4; towards the BAD: 99 * 100
        CHECK.due("step", x.step(BASIC, 1000), 980);
        CHECK.due("step", x.step(BASIC, 0), 990);
        CHECK.due("step", x.step(BASIC, 500), 985);
        CHECK.due("step of nothing called GOOD", x.step(0, 777), 10);
        CHECK.due("step of all called GOOD", x.step(4080, 777), 990);
        x = Check.village("hand 0;eye 0;");
        CHECK.due("flip", x.step(FLIP, 300), 700);
        CHECK.due("stay", x.step(STAY, 301), 301);
        CHECK.due("lone cut", x.step(LONE, 250), 562);
        CHECK.due("d is the giver's", x.step(16 * 16, 300), 300 * 700 / 1000);
        CHECK.due("r is the other one's", x.step(16 * 4, 300), 300 * 700 / 1000);
        CHECK.due("a DEED that is meant", x.step(16 * 8 + 2, 300), 210);
        CHECK.due("a DEED that is not meant", x.step(16 * 8 + 13, 300), 0);
        x = Check.village("hand 50;eye 0;");
        CHECK.due("half of the helping goes amiss", x.step(16 * 0xaa + 15, 400), 500);
        CHECK.due("not helping never goes amiss", x.step(16 * 0xaa, 400), 0);
        x = Check.village("hand 20;eye 10;");
        // helps 80: GOOD 90 of these, and 10 of the 20 others
        CHECK.due("both errors", x.step(16 * 0xaa + 15, 400), 740);
        x = Check.village("eye 50;");
        CHECK.due("eyes shut", x.step(BASIC, 123), 500);
        x = Check.village("hand 0;eye 0;fade 30 new 0;");
        CHECK.due("fades to BAD", x.step(STAY, 501), 350);
        x = Check.village("hand 0;eye 0;fade 30;");
        CHECK.due("fades to GOOD", x.step(STAY, 501), 650);
        x = Check.village("hand 0;eye 0;fade 99 new 1;");
        CHECK.due("fades nearly whole", x.step(STAY, 99), 990);
        CHECK.due("is cut twice", x.step(LONE, 438), (1 * 315 + 99000) / 100);
    }

    private static void from() {
        SaidOfHim x = Check.village("hand 0;eye 0;");
        CHECK.due("rest at once", x.from(STAY, 77, 0), 77);
        CHECK.due("no steps", x.from(STAY, 77, 1), 0);
        CHECK.due("one", x.from(STAY, 77, 2), 1);
        CHECK.due("ring", x.from(FLIP, 300, 0), NONE);
        CHECK.due("ring at once", x.from(FLIP, 300, 1), 0);
        CHECK.due("ring of two", x.from(FLIP, 300, 2), 2);
        CHECK.due("rest within", x.from(FLIP, 500, 0), 500);
        // 500 250 562 191 654 119 776 50 902 9 982 0 1000 0
        CHECK.due("ring", x.from(LONE, 500, 0), NONE);
        CHECK.due("steps till the ring", x.from(LONE, 500, 1), 11);
        CHECK.due("ring of two", x.from(LONE, 500, 2), 2);
        CHECK.due("in the ring", x.from(LONE, 1000, 1), 0);
        CHECK.due("ahead of the ring", x.from(LONE, 381, 1), fromByHand(x, LONE, 381));
        CHECK.due("rest of 0", x.from(0, 1000, 0), 0);
        CHECK.due("one step", x.from(0, 1000, 1), 1);
        CHECK.due("no step", x.from(0, 0, 1), 0);
        CHECK.due("the same twice", x.from(LONE, 500, 1), 11);
    }

    /** STEPS till the first SHARE that comes again, told by step alone. */
    private static int fromByHand(SaidOfHim x, int rule, int share) {
        int[] first = new int[1001];
        int n = 0;
        while (first[share] == 0) {
            first[share] = ++n;
            share = x.step(rule, share);
        }
        return first[share] - 1;
    }

    private static void helped() {
        SaidOfHim x = new SaidOfHim();
        CHECK.due("helped", x.helped(BASIC, 1000), 990000);
        CHECK.due("helped", x.helped(BASIC, 0), 0);
        CHECK.due("helped", x.helped(15, 123), 990000);
        CHECK.due("nobody", x.helped(4080, 123), 0);
        CHECK.due("BAD to BAD, cut once", x.helped(1, 999), 0);
        CHECK.due("BAD to BAD", x.helped(1, 993), 48);
        CHECK.due("BAD to GOOD", x.helped(2, 999), 989);
        CHECK.due("GOOD to BAD", x.helped(4, 999), 989);
        CHECK.due("both, cut once", x.helped(6, 999), 1978);
        CHECK.due("GOOD to GOOD", x.helped(8, 999), 988020);
        x = Check.village("hand 50;");
        CHECK.due("half", x.helped(15, 500), 500000);
        x = Check.village("hand 0;fade 50;eye 50;");
        CHECK.due("whole", x.helped(15, 500), 1000000);
    }

    private static void fit() {
        SaidOfHim x = Check.village("hand 0;eye 0;");
        CHECK.due("all fit", x.fit(STAY, NONE), 1001);
        CHECK.due("first", x.fit(STAY, 0), 0);
        CHECK.due("in between", x.fit(STAY, 345), 345);
        CHECK.due("last", x.fit(STAY, 1000), 1000);
        CHECK.due("behind", x.fit(STAY, 1001), NONE);
        CHECK.due("far behind", x.fit(STAY, Integer.MAX_VALUE), NONE);
        CHECK.due("below", x.fit(STAY, -2), NONE);
        CHECK.due("far below", x.fit(STAY, Integer.MIN_VALUE), NONE);
        CHECK.due("flip", x.fit(FLIP, NONE), 1);
        CHECK.due("flip", x.fit(FLIP, 0), 500);
        CHECK.due("none fit", x.fit(LONE, NONE), 0);
        CHECK.due("none fit", x.fit(LONE, 0), NONE);
        // GOOD only who was GOOD towards one that is GOOD: x * x / 1000
        CHECK.due("both ends", x.fit(16 * 64, NONE), 2);
        CHECK.due("both ends", x.fit(16 * 64, 0), 0);
        CHECK.due("both ends", x.fit(16 * 64, 1), 1000);
        CHECK.due("both ends", x.fit(16 * 64, 2), NONE);
    }

    private static void refused() {
        SaidOfHim x = new SaidOfHim();
        for (int bad : new int[] {-1, 4096, Integer.MIN_VALUE, Integer.MAX_VALUE}) {
            CHECK.due("step rule", x.step(bad, 0), OUTSIDE);
            CHECK.due("from rule", x.from(bad, 0, 0), OUTSIDE);
            CHECK.due("helped rule", x.helped(bad, 0), OUTSIDE);
            CHECK.due("fit rule", x.fit(bad, NONE), OUTSIDE);
            CHECK.due("fit rule", x.fit(bad, -7), OUTSIDE);
        }
        for (int bad : new int[] {-1, 1001, Integer.MIN_VALUE, Integer.MAX_VALUE}) {
            CHECK.due("step share", x.step(0, bad), OUTSIDE);
            CHECK.due("from share", x.from(0, bad, 0), OUTSIDE);
            CHECK.due("helped share", x.helped(0, bad), OUTSIDE);
        }
        for (int bad : new int[] {-1, 3, Integer.MIN_VALUE, Integer.MAX_VALUE}) CHECK.due("from what", x.from(0, 0, bad), OUTSIDE);
        CHECK.holds("nothing changed", Check.state(x).equals(Check.state(new SaidOfHim())));
    }
}
