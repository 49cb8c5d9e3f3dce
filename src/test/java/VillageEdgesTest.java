/** The edges of a new object, village, least and does (promises 1, 5, 6, 7), a test for each sentence that names one. */
public final class VillageEdgesTest {
    private static final Check CHECK = new Check("VillageEdgesTest");
    private static final int OUTSIDE = SaidOfHim.OUTSIDE, NONE = SaidOfHim.NONE;
    private static final int BASIC = 16 * 153 + 10;

    public static void main(String[] args) {
        newObject();
        objectsAreApart();
        lastCall();
        village();
        least();
        doesBounds();
        doesBits();
        CHECK.end();
    }

    private static void newObject() {
        CHECK.about("1: THE VILLAGE as at first; all VIEWS are GOOD");
        CHECK.same("new", Check.state(new SaidOfHim()), "1 3 1 1 0 1 10 153 least 0 bytes 0 fault -1"
            + " 111111/0 111111/0 111111/0 111111/0 111111/0 111111/0");
        CHECK.due("its RULE", 16 * new SaidOfHim().village(7) + new SaidOfHim().village(6), BASIC);
        CHECK.about("each call may be the first one of an object");
        CHECK.due("read()", new SaidOfHim().read(), 0);
        CHECK.due("fault()", new SaidOfHim().fault(), NONE);
        CHECK.due("all(NONE)", new SaidOfHim().all(NONE), 118);
        CHECK.due("best(0)", new SaidOfHim().best(0), 1309);
        CHECK.due("best(1)", new SaidOfHim().best(1), 277);
        CHECK.due("best(2)", new SaidOfHim().best(2), 1309);
        CHECK.due("kinds()", new SaidOfHim().kinds(), 63);
        CHECK.due("gain", new SaidOfHim().gain(BASIC, 0, 980), -1);
        CHECK.due("holds", new SaidOfHim().holds(BASIC), 1);
        CHECK.due("bears", new SaidOfHim().bears(BASIC), 33);
        CHECK.due("other", new SaidOfHim().other(BASIC, 10, 980, 2), 48539403);
        CHECK.due("forget()", new SaidOfHim().forget(), 0);
        CHECK.due("agreed(0)", new SaidOfHim().agreed(0), 90);
        CHECK.due("talk(5, 0)", new SaidOfHim().talk(5, 0), 0);
        CHECK.due("meet(5, 0, 63)", new SaidOfHim().meet(5, 0, 63), 1);
    }

    private static void objectsAreApart() {
        CHECK.about("1: a new object is as at first, whatever others were told");
        SaidOfHim one = Check.village("cost 2;worth 5;hand 0;eye 0;");
        one.least(700000);
        one.call(0, 1, 0);
        one.kin(0, 62);
        one.feed(3, 0);
        one.best(2);
        String before = Check.state(one);
        SaidOfHim other = new SaidOfHim();
        CHECK.same("another one", Check.state(other), Check.state(new SaidOfHim()));
        CHECK.due("all(NONE)", other.all(NONE), 118);
        CHECK.same("the first one", Check.state(one), before);
    }

    private static void lastCall() {
        CHECK.about("What it is: at most 512 calls");
        SaidOfHim x = new SaidOfHim();
        for (int n = 0; n < 511; n++) CHECK.due("call " + n, x.call(n % 6, n / 6 % 6, n / 36 % 2), n < 36 ? 1 : 1 - n / 36 % 2);
        // 504 calls turned all VIEWS to and fro seven times, and seven more turned as many to BAD
        CHECK.due("the 512th", x.forget(), 7);
        x = new SaidOfHim();
        for (int n = 0; n < 170; n++) {
            CHECK.due("feed", x.feed(6, Check.packed("eye " + n % 10 + ";")), 6);
            CHECK.due("read", x.read(), 1);
            CHECK.due("EYE", x.village(3), n % 10);
        }
        CHECK.due("the 511th", x.village(3), 9);
        CHECK.due("the 512th", x.bears(BASIC), 33);
    }

    private static void village() {
        CHECK.about("5: what = 0 .. 9. OUTSIDE");
        SaidOfHim x = Check.village("cost 11;worth 22;hand 33;eye 44;fade 55 new 0;way not not help help;naming good good bad bad good bad bad bad;");
        x.least(66);
        x.feed(7, 0);
        int[] due = {11, 22, 33, 44, 55, 0, 12, 19, 66, 7};
        for (int what = 0; what < due.length; what++) CHECK.due("village(" + what + ")", x.village(what), due[what]);
        for (int what : new int[] {-1, 10, 11, 256, 65536}) CHECK.due("village(" + what + ")", x.village(what), OUTSIDE);
        for (int what : Check.FAR) CHECK.due("village(" + what + ")", x.village(what), OUTSIDE);
    }

    private static void least() {
        CHECK.about("6: LEAST (0 .. 999999; 0 at first) becomes v: what it was. OUTSIDE");
        SaidOfHim x = new SaidOfHim();
        CHECK.due("least(0)", x.least(0), 0);
        CHECK.due("least(-1)", x.least(-1), OUTSIDE);
        CHECK.due("least(1)", x.least(1), 0);
        CHECK.due("least(999999)", x.least(999999), 1);
        CHECK.due("least(1000000)", x.least(1000000), OUTSIDE);
        for (int v : Check.FAR) CHECK.due("least(" + v + ")", x.least(v), OUTSIDE);
        CHECK.due("as it was", x.village(8), 999999);
        CHECK.due("least(999999)", x.least(999999), 999999);
        CHECK.due("least(0)", x.least(0), 999999);
        CHECK.due("village(8)", x.village(8), 0);
        CHECK.about("6: LEAST is no part of what a text tells");
        x.least(77);
        CHECK.due("read", Check.tell(x, "cost 5;"), 1);
        CHECK.due("behind a text", x.village(8), 77);
        CHECK.due("read", x.read(), 0);
        CHECK.due("behind an empty text", x.village(8), 77);
        CHECK.due("read", Check.tell(x, "least 5;"), -11);
        CHECK.due("behind a FAULT", x.village(8), 77);
    }

    private static void doesBounds() {
        CHECK.about("7: RULE (0 .. 4095), d, r (0, 1), deed (NONE, 0, 1). OUTSIDE");
        SaidOfHim x = new SaidOfHim();
        CHECK.due("the first RULE", x.does(0, 1, 1, 1), 0);
        CHECK.due("the last RULE", x.does(4095, 1, 1, 1), 1);
        CHECK.due("the last RULE", x.does(4095, 0, 0, NONE), 1);
        for (int rule : new int[] {-1, 4096, 65536}) CHECK.due("rule " + rule, x.does(rule, 0, 0, 0), OUTSIDE);
        for (int name : new int[] {-1, 2}) {
            CHECK.due("d " + name, x.does(4095, name, 0, 0), OUTSIDE);
            CHECK.due("r " + name, x.does(4095, 0, name, 0), OUTSIDE);
            CHECK.due("d " + name, x.does(4095, name, 0, NONE), OUTSIDE);
            CHECK.due("r " + name, x.does(4095, 0, name, NONE), OUTSIDE);
        }
        for (int deed : new int[] {-2, 2}) CHECK.due("deed " + deed, x.does(4095, 0, 0, deed), OUTSIDE);
        for (int far : Check.FAR) {
            CHECK.due("rule " + far, x.does(far, 0, 0, 0), OUTSIDE);
            CHECK.due("d " + far, x.does(4095, far, 0, 0), OUTSIDE);
            CHECK.due("r " + far, x.does(4095, 0, far, 0), OUTSIDE);
            CHECK.due("deed " + far, x.does(4095, 0, 0, far), OUTSIDE);
        }
    }

    private static void doesBits() {
        CHECK.about("Section 1: WAY: bit 2 d and r; NAMING: bit 4 d and 2 r and the DEED; RULE: 16 times a NAMING and a WAY");
        SaidOfHim x = new SaidOfHim();
        for (int k = 0; k < 12; k++) {
            for (int place = 0; place < 12; place++) {
                int at = place < 4 ? place << 1 : place - 4;
                int deed = place < 4 ? NONE : at & 1;
                CHECK.due("bit " + k + " at " + place, x.does(1 << k, at >> 2, at >> 1 & 1, deed), k == place ? 1 : 0);
            }
        }
        CHECK.about("7: a RULE that is given, not the one of THE VILLAGE");
        x = Check.village("way help help help help;naming bad bad bad bad bad bad bad bad;");
        CHECK.due("whether it means to help", x.does(0, 0, 0, NONE), 0);
        CHECK.due("by which NAME", x.does(4080, 0, 0, 0), 1);
    }
}
