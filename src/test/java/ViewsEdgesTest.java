/** The edges of view, call, meet, kin, talk, agreed and forget (promises 21 to 27, section 5). */
public final class ViewsEdgesTest {
    private static final Check CHECK = new Check("ViewsEdgesTest");
    private static final int UNKNOWN = SaidOfHim.UNKNOWN, OUTSIDE = SaidOfHim.OUTSIDE;
    private static final int[] NOBODY = {-1, 6, 7, 64, Integer.MIN_VALUE, Integer.MAX_VALUE};
    private static final int[] NO_SETS = {-1, 64, 65, 128, 1 << 30, Integer.MIN_VALUE, Integer.MIN_VALUE + 1, Integer.MAX_VALUE};

    public static void main(String[] args) {
        viewBounds();
        callBounds();
        callOrder();
        meetBounds();
        meetOneTwice();
        meetSeenWronglyByNoneAndAll();
        meetByOwnViews();
        kinBounds();
        kinItself();
        talkBounds();
        talkAllButThese();
        talkOfKin();
        agreedBounds();
        agreedFromLeastToMost();
        forgetFromNoneToAll();
        CHECK.end();
    }

    /** One bit for each VIEW of a PERSON. */
    private static int viewsOf(SaidOfHim x, int p) {
        int set = 0;
        for (int c = 0; c < 6; c++) set |= x.view(p, c) << c;
        return set;
    }

    private static void callAll(SaidOfHim x, int p, int set) {
        for (int c = 0; c < 6; c++) x.call(p, c, set >> c & 1);
    }

    private static void viewBounds() {
        CHECK.about("21: PERSONS 0 to 5. UNKNOWN");
        SaidOfHim x = new SaidOfHim();
        for (int p : NOBODY) {
            CHECK.due("view(" + p + ", 0)", x.view(p, 0), UNKNOWN);
            CHECK.due("view(0, " + p + ")", x.view(0, p), UNKNOWN);
            CHECK.due("view of both", x.view(p, p), UNKNOWN);
        }
        CHECK.due("the first", x.view(0, 0), 1);
        CHECK.due("the last", x.view(5, 5), 1);
        CHECK.about("21: the NAME of c in p's VIEW, not the other way round");
        x.call(0, 5, 0);
        CHECK.due("of 5 in 0's", x.view(0, 5), 0);
        CHECK.due("of 0 in 5's", x.view(5, 0), 1);
    }

    private static void callBounds() {
        CHECK.about("22: the NAME becomes v: what it was. UNKNOWN, OUTSIDE");
        SaidOfHim x = new SaidOfHim();
        for (int p : NOBODY) {
            CHECK.due("call(" + p + ", 0, 0)", x.call(p, 0, 0), UNKNOWN);
            CHECK.due("call(0, " + p + ", 0)", x.call(0, p, 0), UNKNOWN);
        }
        for (int v : new int[] {-1, 2, 3, Integer.MIN_VALUE, Integer.MAX_VALUE}) CHECK.due("call(0, 0, " + v + ")", x.call(0, 0, v), OUTSIDE);
        CHECK.due("all as at first", x.agreed(2), 6);
        for (int p = 0; p < 6; p++) {
            for (int c = 0; c < 6; c++) {
                CHECK.due("to BAD", x.call(p, c, 0), 1);
                CHECK.due("to BAD again", x.call(p, c, 0), 0);
                CHECK.due("no other one", x.forget(), 1);
                CHECK.due("to GOOD", x.call(p, c, 1), 1);
            }
        }
        CHECK.due("all as at first", x.agreed(2), 6);
        CHECK.about("Section 5: of oneself, too");
        CHECK.due("of itself", x.call(5, 5, 0), 1);
        CHECK.due("of itself", x.view(5, 5), 0);
    }

    private static void callOrder() {
        CHECK.about("Terms: UNKNOWN, OUTSIDE: of several the first in this order");
        SaidOfHim x = new SaidOfHim();
        for (int v : new int[] {-1, 2, Integer.MAX_VALUE}) {
            CHECK.due("p and v", x.call(6, 0, v), UNKNOWN);
            CHECK.due("c and v", x.call(0, 6, v), UNKNOWN);
            CHECK.due("all", x.call(-1, -1, v), UNKNOWN);
        }
    }

    private static void meetBounds() {
        CHECK.about("23: UNKNOWN (bits)");
        SaidOfHim x = new SaidOfHim();
        for (int p : NOBODY) {
            CHECK.due("meet(" + p + ", 0, 0)", x.meet(p, 0, 0), UNKNOWN);
            CHECK.due("meet(0, " + p + ", 0)", x.meet(0, p, 0), UNKNOWN);
        }
        for (int set : NO_SETS) CHECK.due("meet(0, 1, " + set + ")", x.meet(0, 1, set), UNKNOWN);
        for (int k = 6; k < 32; k++) CHECK.due("bit " + k, x.meet(0, 1, 1 << k), UNKNOWN);
        CHECK.due("nothing changed", x.forget(), 0);
        CHECK.due("the last bit", x.meet(0, 1, 32), 1);
        CHECK.due("the last one saw it wrongly", x.forget(), 1);
    }

    private static void meetOneTwice() {
        CHECK.about("23: UNKNOWN (one twice)");
        SaidOfHim x = new SaidOfHim();
        for (int p = 0; p < 6; p++) {
            CHECK.due("meet(" + p + ", " + p + ")", x.meet(p, p, 63), UNKNOWN);
            for (int q = 0; q < 6; q++) if (q != p) CHECK.due("meet(" + p + ", " + q + ")", x.meet(p, q, 0), 1);
        }
        CHECK.due("nothing changed", x.forget(), 0);
    }

    private static void meetSeenWronglyByNoneAndAll() {
        CHECK.about("23: a SET see the other DEED: each, none, all; the DEED there was");
        for (int k = 0; k < 6; k++) {
            SaidOfHim x = new SaidOfHim();
            CHECK.due("the DEED there was", x.meet(2, 4, 1 << k), 1);
            for (int p = 0; p < 6; p++) CHECK.due("seen by " + p, viewsOf(x, p), p == k ? 63 - 4 : 63);
        }
        SaidOfHim x = new SaidOfHim();
        CHECK.due("none", x.meet(2, 4, 0), 1);
        CHECK.due("none", x.forget(), 0);
        CHECK.due("all", x.meet(2, 4, 63), 1);
        CHECK.due("all", x.forget(), 6);
        CHECK.about("23: HAND, EYE and FADE are not of these");
        x = Check.village("hand 50;eye 50;fade 99 new 0;");
        CHECK.due("it helps", x.meet(0, 1, 0), 1);
        CHECK.due("all call it GOOD", x.forget(), 0);
    }

    private static void meetByOwnViews() {
        CHECK.about("Section 5: a means to help by THE WAY, d and r in a's own VIEW");
        for (int own = 0; own < 4; own++) {
            for (int helps = 0; helps < 4; helps++) {
                StringBuilder text = new StringBuilder("way");
                for (int k = 0; k < 4; k++) text.append(k == helps ? " help" : " not");
                SaidOfHim x = Check.village(text + ";");
                // all others see it the other way round
                for (int p = 0; p < 6; p++) callAll(x, p, p == 0 ? own >> 1 | (own & 1) << 5 : 63 - (own >> 1 | (own & 1) << 5));
                CHECK.due("d, r " + own + " where " + helps + " helps", x.meet(0, 5, 0), own == helps ? 1 : 0);
            }
        }
        CHECK.about("Section 5: each names a anew by THE NAMING: d, r as in its own VIEW, the DEED as it saw it");
        for (int place = 0; place < 8; place++) {
            StringBuilder text = new StringBuilder("way help help help help;naming");
            for (int k = 0; k < 8; k++) text.append(k == place ? " good" : " bad");
            for (int own = 0; own < 4; own++) {
                SaidOfHim x = Check.village(text + ";");
                for (int p = 0; p < 6; p++) callAll(x, p, own >> 1 | (own & 1) << 5);
                CHECK.due("it helps", x.meet(0, 5, 0b101010), 1);
                for (int p = 0; p < 6; p++) {
                    int at = 2 * own + 1 - p % 2;
                    CHECK.due("seen by " + p, viewsOf(x, p), (at == place ? 1 : 0) | (own & 1) << 5);
                }
            }
        }
    }

    private static void kinBounds() {
        CHECK.about("24: KIN become a SET: what they were. UNKNOWN (bits)");
        SaidOfHim x = new SaidOfHim();
        for (int p : NOBODY) CHECK.due("kin(" + p + ", 0)", x.kin(p, 0), UNKNOWN);
        // bits of which none is 1's own
        for (int k = 6; k < 32; k++) CHECK.due("bit " + k, x.kin(1, 1 << k), UNKNOWN);
        for (int set : new int[] {-1, -3, -64, 64 + 1, Integer.MAX_VALUE - 2}) CHECK.due("kin(1, " + set + ")", x.kin(1, set), UNKNOWN);
        for (int p = 0; p < 6; p++) CHECK.due("none at first", x.kin(p, 63 - (1 << p)), 0);
        for (int p = 0; p < 6; p++) CHECK.due("all but itself", x.kin(p, 0), 63 - (1 << p));
        for (int p = 0; p < 6; p++) CHECK.due("none again", x.kin(p, 0), 0);
        CHECK.about("24: KIN are for each: one's KIN need not have it as KIN");
        x.kin(2, 8);
        CHECK.due("of 3", x.kin(3, 0), 0);
        CHECK.due("of 2", x.kin(2, 0), 8);
    }

    private static void kinItself() {
        CHECK.about("24: UNKNOWN (itself)");
        SaidOfHim x = new SaidOfHim();
        for (int p = 0; p < 6; p++) {
            int others = 63 - (1 << p);
            x.kin(p, others);
            CHECK.due("itself", x.kin(p, 1 << p), UNKNOWN);
            CHECK.due("itself and others", x.kin(p, 63), UNKNOWN);
            CHECK.due("as it was", x.kin(p, others), others);
        }
    }

    private static void talkBounds() {
        CHECK.about("25: UNKNOWN (one twice)");
        SaidOfHim x = new SaidOfHim();
        for (int c = 0; c < 6; c++) x.call(0, c, 0);
        for (int p : NOBODY) {
            CHECK.due("talk(" + p + ", 0)", x.talk(p, 0), UNKNOWN);
            CHECK.due("talk(0, " + p + ")", x.talk(0, p), UNKNOWN);
            CHECK.due("talk of both", x.talk(p, p), UNKNOWN);
        }
        for (int p = 0; p < 6; p++) CHECK.due("talk(" + p + ", " + p + ")", x.talk(p, p), UNKNOWN);
        CHECK.due("nothing changed", x.forget(), 6);
    }

    private static void talkAllButThese() {
        CHECK.about("Section 5: TALK: b takes a's VIEW of all but a and b; 25: how many VIEWS of b change");
        for (int a = 0; a < 6; a++) {
            for (int b = 0; b < 6; b++) {
                if (a == b) continue;
                SaidOfHim x = new SaidOfHim();
                callAll(x, a, 0);
                int these = 1 << a | 1 << b;
                CHECK.due("all four change", x.talk(a, b), 4);
                CHECK.due("views of b", viewsOf(x, b), these);
                CHECK.due("views of a", viewsOf(x, a), 0);
                CHECK.due("none change then", x.talk(a, b), 0);
                CHECK.due("back again none change", x.talk(b, a), 0);
                CHECK.due("nobody else's", x.forget(), 10);
            }
        }
        SaidOfHim x = new SaidOfHim();
        callAll(x, 1, 0);
        callAll(x, 2, 0b001000);
        CHECK.due("one changes", x.talk(1, 2), 1);
        CHECK.due("to GOOD as well as to BAD", x.talk(0, 2), 4);
    }

    private static void talkOfKin() {
        CHECK.about("Section 5: who TALKS tells of its KIN that they are GOOD");
        for (int kin = 0; kin < 64; kin++) {
            if ((kin & 2) != 0) continue;
            SaidOfHim x = new SaidOfHim();
            callAll(x, 1, 0);
            callAll(x, 4, 0);
            x.kin(1, kin);
            int told = kin & 0b101101;
            CHECK.due("kin " + kin, x.talk(1, 4), Integer.bitCount(told));
            CHECK.due("views of the hearer", viewsOf(x, 4), told);
            CHECK.due("the teller's own stay", viewsOf(x, 1), 0);
        }
        CHECK.about("Section 5: the KIN of the one who TALKS, not of the other one");
        SaidOfHim x = new SaidOfHim();
        callAll(x, 1, 0);
        x.kin(4, 0b101101);
        CHECK.due("the hearer's KIN", x.talk(1, 4), 4);
        CHECK.due("the hearer's KIN", viewsOf(x, 4), 0b010010);
        CHECK.about("Section 5: KIN are no matter at a MEETING");
        x.forget();
        x.kin(0, 62);
        x.call(0, 1, 0);
        CHECK.due("it does not help", x.meet(0, 1, 0), 0);
    }

    private static void agreedBounds() {
        CHECK.about("26: what = 0, 1, 2. OUTSIDE");
        SaidOfHim x = new SaidOfHim();
        for (int what : new int[] {-1, 3, 4, Integer.MIN_VALUE, Integer.MAX_VALUE}) CHECK.due("agreed(" + what + ")", x.agreed(what), OUTSIDE);
        CHECK.due("of 90", x.agreed(0), 90);
        CHECK.due("of 6", x.agreed(1), 6);
        CHECK.due("of 6", x.agreed(2), 6);
    }

    private static void agreedFromLeastToMost() {
        CHECK.about("26: AGREED: i less than j, VIEWS of i and j of k that are alike, how many");
        int[] alike = {15, 10, 7, 6, 7, 10, 15};
        for (int bad = 0; bad <= 6; bad++) {
            SaidOfHim x = new SaidOfHim();
            for (int p = 0; p < bad; p++) callAll(x, p, 0);
            CHECK.due("agreed(0) with " + bad, x.agreed(0), 6 * alike[bad]);
            CHECK.due("agreed(1) with " + bad, x.agreed(1), bad == 0 || bad == 6 ? 6 : 0);
            CHECK.due("agreed(2) with " + bad, x.agreed(2), bad == 0 ? 6 : 0);
        }
        CHECK.about("26: VIEWS of oneself count, too");
        for (int p = 0; p < 6; p++) {
            SaidOfHim x = new SaidOfHim();
            x.call(p, p, 0);
            CHECK.due("agreed(0)", x.agreed(0), 85);
            CHECK.due("agreed(1)", x.agreed(1), 5);
            CHECK.due("agreed(2)", x.agreed(2), 5);
        }
        CHECK.about("26: PERSONS all call alike, be it BAD; GOOD alone");
        SaidOfHim x = new SaidOfHim();
        for (int c = 0; c < 6; c++) {
            for (int p = 0; p < 6; p++) x.call(p, c, 0);
            CHECK.due("agreed(0)", x.agreed(0), 90);
            CHECK.due("agreed(1)", x.agreed(1), 6);
            CHECK.due("agreed(2)", x.agreed(2), 5 - c);
        }
    }

    private static void forgetFromNoneToAll() {
        CHECK.about("27: all VIEWS are GOOD, nobody has KIN: how many VIEWS were BAD (0 .. 36)");
        SaidOfHim x = new SaidOfHim();
        CHECK.due("none", x.forget(), 0);
        for (int p = 0; p < 6; p++) {
            callAll(x, p, 0);
            x.kin(p, 63 - (1 << p));
        }
        CHECK.due("all", x.forget(), 36);
        for (int p = 0; p < 6; p++) {
            CHECK.due("views of " + p, viewsOf(x, p), 63);
            CHECK.due("kin of " + p, x.kin(p, 0), 0);
        }
        CHECK.due("none again", x.forget(), 0);
        CHECK.about("27: KIN that were is forgotten ahead of TALK");
        x.kin(1, 0b000001);
        x.forget();
        x.call(1, 0, 0);
        CHECK.due("told as it is", x.talk(1, 2), 1);
        CHECK.about("27: nothing else is forgotten");
        x = Check.village("cost 7;way help help help help;");
        x.least(9);
        Check.tell(x, "cost 100;");
        Check.feed(x, "eye 3;");
        x.forget();
        CHECK.same("village", Check.numbers(x), "7 3 1 1 0 1 15 153");
        CHECK.due("LEAST", x.village(8), 9);
        CHECK.due("fault", x.fault(), 5);
        CHECK.due("THE TEXT", x.read(), 1);
        CHECK.due("THE TEXT", x.village(3), 3);
    }
}
