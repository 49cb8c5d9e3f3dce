/** Promises 21 to 27: view, call, meet, kin, talk, agreed, forget. */
public final class ViewsTest {
    private static final Check CHECK = new Check("ViewsTest");
    private static final int UNKNOWN = SaidOfHim.UNKNOWN, OUTSIDE = SaidOfHim.OUTSIDE;
    private static final int[] NOBODY = {-1, 6, Integer.MIN_VALUE, Integer.MAX_VALUE};

    public static void main(String[] args) {
        viewAndCall();
        meetByTheOwnView();
        meetNamesByEachView();
        meetByTheVillage();
        kin();
        talk();
        agreed();
        forget();
        refused();
        CHECK.end();
    }

    private static void viewAndCall() {
        SaidOfHim x = new SaidOfHim();
        CHECK.due("call", x.call(2, 5, 0), 1);
        CHECK.due("call", x.call(2, 5, 0), 0);
        for (int p = 0; p < 6; p++) {
            for (int c = 0; c < 6; c++) CHECK.due("view " + p + c, x.view(p, c), p == 2 && c == 5 ? 0 : 1);
        }
        CHECK.due("call", x.call(2, 5, 1), 0);
        CHECK.due("view", x.view(2, 5), 1);
        CHECK.due("of oneself", x.call(3, 3, 0), 1);
        CHECK.due("of oneself", x.view(3, 3), 0);
        CHECK.due("PERSON goes before NAME", x.call(6, 0, 7), UNKNOWN);
        CHECK.due("PERSON goes before NAME", x.call(0, -1, 7), UNKNOWN);
        for (int v : new int[] {-1, 2, Integer.MIN_VALUE, Integer.MAX_VALUE}) CHECK.due("call", x.call(3, 3, v), OUTSIDE);
        CHECK.due("as it was", x.view(3, 3), 0);
    }

    private static void meetByTheOwnView() {
        // whether a helps hangs on a's VIEW alone, of itself and of b
        for (int way = 0; way < 4; way++) {
            StringBuilder text = new StringBuilder("way");
            for (int k = 0; k < 4; k++) text.append(k == way ? " help" : " not");
            SaidOfHim x = Check.village(text + ";");
            for (int d = 0; d < 2; d++) {
                for (int r = 0; r < 2; r++) {
                    x.forget();
                    x.call(4, 4, d);
                    x.call(4, 1, r);
                    x.call(1, 4, 1 - d);
                    x.call(1, 1, 1 - r);
                    CHECK.due("meet " + way + d + r, x.meet(4, 1, 0), 2 * d + r == way ? 1 : 0);
                }
            }
        }
    }

    private static void meetNamesByEachView() {
        for (int place = 0; place < 8; place++) {
            StringBuilder text = new StringBuilder("naming");
            for (int k = 0; k < 8; k++) text.append(k == place ? " good" : " bad");
            SaidOfHim x = Check.village(text + ";way help not help not;");
            for (int wrong = 0; wrong < 64; wrong += 21) {
                x.forget();
                for (int p = 0; p < 6; p++) {
                    x.call(p, 2, p & 1);
                    x.call(p, 3, p >> 1 & 1);
                }
                // 2's own VIEW of 3 is GOOD, so that it does not help
                CHECK.due("meet", x.meet(2, 3, wrong), 0);
                for (int p = 0; p < 6; p++) {
                    int at = 4 * (p & 1) + 2 * (p >> 1 & 1) + (wrong >> p & 1);
                    CHECK.due("view " + place + p + wrong, x.view(p, 2), at == place ? 1 : 0);
                    CHECK.due("of the other one", x.view(p, 3), p >> 1 & 1);
                    CHECK.due("of a third one", x.view(p, 4), 1);
                }
            }
        }
    }

    private static void meetByTheVillage() {
        SaidOfHim x = Check.village("hand 50;eye 50;");
        for (int n = 0; n < 9; n++) CHECK.due("nothing goes amiss of itself", x.meet(n % 5, 5, 0), 1);
        CHECK.due("all GOOD", x.agreed(2), 6);
        CHECK.due("seen wrongly", x.meet(0, 1, 0b000101), 1);
        CHECK.due("by itself", x.view(0, 0), 0);
        CHECK.due("by the other one rightly", x.view(1, 0), 1);
        CHECK.due("by 2", x.view(2, 0), 0);
        CHECK.due("by 3 rightly", x.view(3, 0), 1);
    }

    private static void kin() {
        SaidOfHim x = new SaidOfHim();
        CHECK.due("kin", x.kin(0, 62), 0);
        CHECK.due("kin", x.kin(0, 2), 62);
        CHECK.due("kin", x.kin(5, 31), 0);
        for (int p = 0; p < 6; p++) CHECK.due("itself", x.kin(p, 1 << p), UNKNOWN);
        CHECK.due("itself and others", x.kin(0, 63), UNKNOWN);
        for (int set : new int[] {64, 66, -1, -2, Integer.MIN_VALUE, Integer.MAX_VALUE - 1}) CHECK.due("bits", x.kin(0, set), UNKNOWN);
        CHECK.due("as it was", x.kin(0, 0), 2);
        CHECK.due("as it was", x.kin(5, 0), 31);
    }

    private static void talk() {
        SaidOfHim x = new SaidOfHim();
        for (int c = 0; c < 6; c++) x.call(1, c, 0);
        CHECK.due("talk", x.talk(1, 4), 4);
        for (int c = 0; c < 6; c++) CHECK.due("view of 4", x.view(4, c), c == 1 || c == 4 ? 1 : 0);
        CHECK.due("once more", x.talk(1, 4), 0);
        CHECK.due("the teller keeps its own", x.view(1, 4), 0);
        x.kin(1, 0b001100);
        CHECK.due("kin are told to be GOOD", x.talk(1, 4), 2);
        CHECK.due("kin", x.view(4, 2), 1);
        CHECK.due("kin", x.view(4, 3), 1);
        CHECK.due("not kin", x.view(4, 0), 0);
        CHECK.due("what the teller thinks itself", x.view(1, 2), 0);
        x.kin(1, 0b010000);
        CHECK.due("nobody is told of himself", x.talk(1, 4), 2);
        x.call(4, 4, 0);
        CHECK.due("nobody is told of himself", x.talk(1, 4), 0);
        CHECK.due("nobody is told of himself", x.view(4, 4), 0);
        x.kin(4, 0b000010);
        x.call(4, 1, 0);
        CHECK.due("the hearer's kin", x.talk(1, 4), 0);
        CHECK.due("the hearer's kin", x.view(4, 1), 0);
        CHECK.due("GOOD is told, too", x.talk(0, 4), 4);
    }

    private static void agreed() {
        SaidOfHim x = new SaidOfHim();
        CHECK.due("agreed(0)", x.agreed(0), 90);
        CHECK.due("agreed(1)", x.agreed(1), 6);
        CHECK.due("agreed(2)", x.agreed(2), 6);
        int[] pairs = {15, 10, 7, 6, 7, 10, 15};
        for (int p = 0; p < 6; p++) {
            x.call(p, 3, 0);
            CHECK.due("agreed(0)", x.agreed(0), 75 + pairs[p + 1]);
            CHECK.due("agreed(1)", x.agreed(1), p == 5 ? 6 : 5);
            CHECK.due("agreed(2)", x.agreed(2), 5);
        }
        for (int what : new int[] {-1, 3, Integer.MIN_VALUE, Integer.MAX_VALUE}) CHECK.due("agreed", x.agreed(what), OUTSIDE);
    }

    private static void forget() {
        SaidOfHim x = new SaidOfHim();
        for (int p = 0; p < 6; p++) {
            x.kin(p, 63 & ~(1 << p));
            for (int c = 0; c < 6; c++) x.call(p, c, 0);
        }
        Check.tell(x, "cost 7;");
        x.least(9);
        x.feed(3, 0);
        CHECK.due("forget", x.forget(), 36);
        CHECK.due("forget again", x.forget(), 0);
        CHECK.due("all GOOD", x.agreed(2), 6);
        for (int p = 0; p < 6; p++) CHECK.due("nobody has KIN", x.kin(p, 0), 0);
        CHECK.due("COST", x.village(0), 7);
        CHECK.due("LEAST", x.village(8), 9);
        CHECK.due("bytes", x.village(9), 3);
        x.call(0, 1, 0);
        x.call(5, 5, 0);
        CHECK.due("forget two", x.forget(), 2);
    }

    private static void refused() {
        SaidOfHim x = new SaidOfHim();
        x.call(0, 1, 0);
        x.call(2, 2, 0);
        x.kin(3, 5);
        String before = Check.state(x);
        for (int bad : NOBODY) {
            CHECK.due("view", x.view(bad, 0), UNKNOWN);
            CHECK.due("view", x.view(0, bad), UNKNOWN);
            CHECK.due("call", x.call(bad, 0, 0), UNKNOWN);
            CHECK.due("call", x.call(0, bad, 0), UNKNOWN);
            CHECK.due("meet", x.meet(bad, 0, 0), UNKNOWN);
            CHECK.due("meet", x.meet(0, bad, 0), UNKNOWN);
            CHECK.due("kin", x.kin(bad, 0), UNKNOWN);
            CHECK.due("talk", x.talk(bad, 0), UNKNOWN);
            CHECK.due("talk", x.talk(0, bad), UNKNOWN);
        }
        for (int set : new int[] {64, -1, Integer.MIN_VALUE, Integer.MAX_VALUE}) CHECK.due("meet bits", x.meet(0, 2, set), UNKNOWN);
        for (int p = 0; p < 6; p++) {
            CHECK.due("meet twice", x.meet(p, p, 0), UNKNOWN);
            CHECK.due("talk twice", x.talk(p, p), UNKNOWN);
        }
        CHECK.holds("nothing changed", before.equals(Check.state(x)));
    }
}
