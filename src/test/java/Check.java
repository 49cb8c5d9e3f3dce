/** What the tests share: due answers are compared and counted, wrong ones printed. */
final class Check {
    private final String test;
    private int wrong = 0;
    private int made = 0;

    Check(String test) {
        this.test = test;
    }

    void due(String call, long got, long want) {
        made++;
        if (got == want) return;
        wrong++;
        if (wrong <= 40) System.out.println(test + ": " + call + " answered " + got + ", due is " + want);
    }

    void holds(String what, boolean held) {
        due(what, held ? 1 : 0, 1);
    }

    void end() {
        System.out.println(test + ": " + made + " answers, " + wrong + " wrong");
        if (wrong != 0 || made == 0) System.exit(1);
    }

    /** The text goes in by eights, as a caller would feed it. */
    static void feed(SaidOfHim x, String text) {
        for (int i = 0; i < text.length(); i += 8) {
            int n = Math.min(8, text.length() - i);
            long bytes = 0;
            for (int k = 0; k < n; k++) bytes = bytes << 8 | text.charAt(i + k) & 255;
            x.feed(n, bytes);
        }
    }

    static int tell(SaidOfHim x, String text) {
        feed(x, text);
        return x.read();
    }

    static SaidOfHim village(String text) {
        SaidOfHim x = new SaidOfHim();
        if (tell(x, text) < 0) throw new IllegalStateException("fault in " + text);
        return x;
    }

    /** All that the calls tell cheaply of the state, so that a refused call can be shown to change nothing. */
    static String state(SaidOfHim x) {
        StringBuilder s = new StringBuilder();
        for (int what = 0; what < 10; what++) s.append(x.village(what)).append(' ');
        s.append(x.fault()).append(':');
        for (int p = 0; p < 6; p++) {
            for (int c = 0; c < 6; c++) s.append(x.view(p, c));
            int kin = x.kin(p, 0);
            x.kin(p, kin);
            s.append('/').append(kin).append(' ');
        }
        return s.toString();
    }
}
