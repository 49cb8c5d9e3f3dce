/** What the tests share: due answers are compared and counted, wrong ones printed. */
final class Check {
    /** Out of every bound, and where 32 bits turn about. */
    static final int[] FAR = {Integer.MIN_VALUE, Integer.MIN_VALUE + 1, -1001, Integer.MAX_VALUE - 1, Integer.MAX_VALUE};

    private final String test;
    private String sentence = "";
    private int sentenceMade = 1;
    private int wrong = 0;
    private int made = 0;

    Check(String test) {
        this.test = test;
    }

    /** The sentence of the document that the answers from here on are about; each one needs an answer of its own. */
    void about(String words) {
        closeSentence();
        sentence = words;
        sentenceMade = 0;
    }

    private void closeSentence() {
        if (sentenceMade == 0) fail("nothing was asked");
    }

    private void fail(String what) {
        wrong++;
        if (wrong <= 40) System.out.println(test + (sentence.isEmpty() ? "" : " [" + sentence + "]") + ": " + what);
    }

    void due(String call, long got, long want) {
        made++;
        sentenceMade++;
        if (got != want) fail(call + " answered " + got + ", due is " + want);
    }

    void holds(String what, boolean held) {
        due(what, held ? 1 : 0, 1);
    }

    void same(String what, String got, String want) {
        made++;
        sentenceMade++;
        if (!got.equals(want)) fail(what + " is " + got + ", due is " + want);
    }

    void end() {
        closeSentence();
        System.out.println(test + ": " + made + " answers, " + wrong + " wrong");
        if (wrong != 0 || made == 0) System.exit(1);
    }

    /** Up to eight signs as the long that feed takes. */
    static long packed(String signs) {
        long bytes = 0;
        for (int k = 0; k < signs.length(); k++) bytes = bytes << 8 | signs.charAt(k) & 255;
        return bytes;
    }

    /** The text goes in by eights, as a caller would feed it; how many bytes there are then. */
    static int feed(SaidOfHim x, String text) {
        int size = x.village(9);
        for (int i = 0; i < text.length(); i += 8) {
            int n = Math.min(8, text.length() - i);
            size = x.feed(n, packed(text.substring(i, i + n)));
        }
        return size;
    }

    static int tell(SaidOfHim x, String text) {
        feed(x, text);
        return x.read();
    }

    static SaidOfHim village(String text) {
        SaidOfHim x = new SaidOfHim();
        if (tell(x, text) < 0) throw new IllegalStateException("fault in " + text);
        return x;
    }

    /** All eight numbers of THE VILLAGE. */
    static String numbers(SaidOfHim x) {
        StringBuilder s = new StringBuilder();
        for (int what = 0; what < 8; what++) s.append(what == 0 ? "" : " ").append(x.village(what));
        return s.toString();
    }

    /** All that the calls tell cheaply of the state, so that a refused call can be shown to change nothing. */
    static String state(SaidOfHim x) {
        StringBuilder s = new StringBuilder(numbers(x));
        s.append(" least ").append(x.village(8)).append(" bytes ").append(x.village(9)).append(" fault ").append(x.fault());
        for (int p = 0; p < 6; p++) {
            s.append(' ');
            for (int c = 0; c < 6; c++) s.append(x.view(p, c));
            int kin = x.kin(p, 0);
            x.kin(p, kin);
            s.append('/').append(kin);
        }
        return s.toString();
    }
}
