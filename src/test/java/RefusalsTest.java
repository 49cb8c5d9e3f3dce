/** "What is refused changes nothing": every call that can be refused, by each of its arguments, in a state full of traces. */
public final class RefusalsTest {
    private static final Check CHECK = new Check("RefusalsTest");
    private static final int UNKNOWN = SaidOfHim.UNKNOWN, OUTSIDE = SaidOfHim.OUTSIDE, FULL = SaidOfHim.FULL;
    private static final int[] FAR = {-2, Integer.MIN_VALUE, Integer.MAX_VALUE};

    /** A call by its name, its arguments told as ints. */
    private interface Call {
        long on(SaidOfHim x, int... a);
    }

    public static void main(String[] args) {
        // for each call: arguments that are fine, and the lowest and the highest that each may have
        refused("feed", (x, a) -> x.feed(a[0], 0x3f3f3f3f), OUTSIDE, new int[] {1}, new int[] {1, 8});
        refused("village", (x, a) -> x.village(a[0]), OUTSIDE, new int[] {0}, new int[] {0, 9});
        refused("least", (x, a) -> x.least(a[0]), OUTSIDE, new int[] {5}, new int[] {0, 999999});
        refused("does", (x, a) -> x.does(a[0], a[1], a[2], a[3]), OUTSIDE, new int[] {15, 0, 0, 0},
            new int[] {0, 4095}, new int[] {0, 1}, new int[] {0, 1}, new int[] {-1, 1});
        refused("step", (x, a) -> x.step(a[0], a[1]), OUTSIDE, new int[] {15, 500}, new int[] {0, 4095}, new int[] {0, 1000});
        refused("from", (x, a) -> x.from(a[0], a[1], a[2]), OUTSIDE, new int[] {15, 500, 1},
            new int[] {0, 4095}, new int[] {0, 1000}, new int[] {0, 2});
        refused("helped", (x, a) -> x.helped(a[0], a[1]), OUTSIDE, new int[] {15, 500}, new int[] {0, 4095}, new int[] {0, 1000});
        refused("fit", (x, a) -> x.fit(a[0], 0), OUTSIDE, new int[] {15}, new int[] {0, 4095});
        refused("other", (x, a) -> x.other(a[0], a[1], a[2], a[3]), OUTSIDE, new int[] {15, 7, 500, 0},
            new int[] {0, 4095}, new int[] {0, 15}, new int[] {0, 1000}, new int[] {0, 3});
        refused("gain", (x, a) -> x.gain(a[0], a[1], a[2]), OUTSIDE, new int[] {15, 7, 500},
            new int[] {0, 4095}, new int[] {0, 15}, new int[] {0, 1000});
        refused("holds", (x, a) -> x.holds(a[0]), OUTSIDE, new int[] {15}, new int[] {0, 4095});
        refused("best", (x, a) -> x.best(a[0]), OUTSIDE, new int[] {1}, new int[] {0, 2});
        refused("plain", (x, a) -> x.plain(a[0]), OUTSIDE, new int[] {15}, new int[] {0, 4095});
        refused("bears", (x, a) -> x.bears(a[0]), OUTSIDE, new int[] {15}, new int[] {0, 4095});
        refused("turned", (x, a) -> x.turned(a[0]), OUTSIDE, new int[] {15}, new int[] {0, 4095});
        refused("view", (x, a) -> x.view(a[0], a[1]), UNKNOWN, new int[] {1, 2}, new int[] {0, 5}, new int[] {0, 5});
        refused("call", (x, a) -> x.call(a[0], a[1], 0), UNKNOWN, new int[] {1, 2}, new int[] {0, 5}, new int[] {0, 5});
        refused("call's v", (x, a) -> x.call(1, 2, a[0]), OUTSIDE, new int[] {1}, new int[] {0, 1});
        refused("meet", (x, a) -> x.meet(a[0], a[1], a[2]), UNKNOWN, new int[] {1, 2, 21},
            new int[] {0, 5}, new int[] {0, 5}, new int[] {0, 63});
        refused("kin", (x, a) -> x.kin(a[0], a[1]), UNKNOWN, new int[] {5, 21}, new int[] {0, 5}, new int[] {0, 31});
        refused("talk", (x, a) -> x.talk(a[0], a[1]), UNKNOWN, new int[] {1, 2}, new int[] {0, 5}, new int[] {0, 5});
        refused("agreed", (x, a) -> x.agreed(a[0]), OUTSIDE, new int[] {1}, new int[] {0, 2});
        oneTwice();
        fullText();
        nothingOfAFault();
        CHECK.end();
    }

    /** Everything is another one than at first, and a good clause waits in THE TEXT. */
    private static SaidOfHim traces() {
        SaidOfHim x = Check.village("cost 2;worth 5;hand 0;eye 0;fade 3 new 0;way not help help not;naming bad good good bad bad bad good good;");
        Check.tell(x, "cost 3;?");
        x.least(12345);
        for (int p = 0; p < 6; p++) {
            x.kin(p, 21 & ~(1 << p));
            x.call(p, 5 - p, 0);
            x.call(p, p / 2, 0);
        }
        Check.feed(x, "eye 17;");
        return x;
    }

    private static void unchanged(String what, SaidOfHim x, String before) {
        CHECK.same(what + ": the state", Check.state(x), before);
        CHECK.due(what + ": what all RULES do", x.all(SaidOfHim.NONE), KNOWN.all);
        CHECK.due(what + ": and their kinds", x.kinds(), KNOWN.kinds);
        CHECK.due(what + ": the text is read", x.read(), 1);
        CHECK.due(what + ": as it was", x.village(3), 17);
    }

    private static final Known KNOWN = new Known();

    /** What the untouched object answers. */
    private static final class Known {
        final int all, kinds;

        Known() {
            SaidOfHim x = traces();
            all = x.all(SaidOfHim.NONE);
            kinds = x.kinds();
        }
    }

    private static void refused(String name, Call call, int answer, int[] fine, int[]... bounds) {
        CHECK.about("Terms: what is refused changes nothing: " + name);
        long within = call.on(traces(), fine);
        CHECK.holds(name + " is not refused by " + java.util.Arrays.toString(fine), within != UNKNOWN && within != OUTSIDE && within != FULL);
        for (int k = 0; k < bounds.length; k++) {
            once(name, call, answer, fine, k, bounds[k][0] - 1);
            once(name, call, answer, fine, k, bounds[k][1] + 1);
            for (int far : FAR) once(name, call, answer, fine, k, far);
        }
    }

    private static void once(String name, Call call, int answer, int[] fine, int k, int value) {
        int[] given = fine.clone();
        given[k] = value;
        SaidOfHim x = traces();
        String before = Check.state(x);
        String what = name + java.util.Arrays.toString(given);
        CHECK.due(what, call.on(x, given), answer);
        unchanged(what, x, before);
    }

    private static void oneTwice() {
        CHECK.about("Terms: what is refused changes nothing: one twice, itself");
        for (int p = 0; p < 6; p++) {
            SaidOfHim x = traces();
            String before = Check.state(x);
            CHECK.due("meet", x.meet(p, p, 0), UNKNOWN);
            CHECK.due("talk", x.talk(p, p), UNKNOWN);
            CHECK.due("kin", x.kin(p, 1 << p), UNKNOWN);
            CHECK.due("kin", x.kin(p, 63), UNKNOWN);
            unchanged("person " + p, x, before);
        }
    }

    private static void fullText() {
        CHECK.about("Terms: what is refused changes nothing: FULL");
        for (int n = 1; n <= 8; n++) {
            SaidOfHim x = traces();
            Check.feed(x, " ".repeat(114 - n));
            String before = Check.state(x);
            CHECK.due("feed(" + n + ")", x.feed(n, -1L), FULL);
            unchanged("feed(" + n + ")", x, before);
        }
    }

    private static void nothingOfAFault() {
        CHECK.about("3: a FAULT changes neither THE VILLAGE nor LEAST, VIEWS, KIN, nor what all RULES do");
        for (String text : new String[] {"cost 9;?", "hand 7;eye 51;", "fade 1;fade 1;", "way not not not not;naming bad"}) {
            SaidOfHim x = traces();
            x.read();
            Check.tell(x, "cost 2;worth 5;hand 0;eye 0;fade 3 new 0;way not help help not;naming bad good good bad bad bad good good;");
            Check.tell(x, "cost 3;?");
            String before = Check.state(x);
            x.all(0);
            Check.tell(x, text);
            Check.tell(x, "cost 3;?");
            CHECK.same("state behind '" + text + "'", Check.state(x), before);
            CHECK.due("all RULES behind '" + text + "'", x.all(SaidOfHim.NONE), KNOWN.all);
            CHECK.due("kinds behind '" + text + "'", x.kinds(), KNOWN.kinds);
        }
    }
}
