import java.util.Random;

/** Long runs of calls on the class and on the model, drawn with a fixed seed: every answer alike. */
public final class ModelTest {
    private static final Check CHECK = new Check("ModelTest");
    private static final Random DICE = new Random(20261118);
    private static final String[] WORDS = {"cost", "worth", "hand", "eye", "fade", "new", "way", "naming", "help", "not",
        "good", "bad", ";", ";", " ", " ", "5", "51", "99", "100", "007", "1", "0", "x", "A", "\t"};

    public static void main(String[] args) {
        for (int n = 0; n < 800; n++) mixedRun();
        for (int n = 0; n < 3000; n++) textRun();
        for (int n = 0; n < 90; n++) viewRun();
        for (int n = 0; n < 24; n++) survey(n);
        CHECK.end();
    }

    private static int die(int n) {
        return DICE.nextInt(n);
    }

    /** Mostly within 0 .. top, now and then at or beyond an edge. */
    private static int near(int top) {
        switch (die(24)) {
            case 0: return -1;
            case 1: return top + 1;
            case 2: return top;
            case 3: return 0;
            case 4: return die(8) == 0 ? DICE.nextInt() : -2;
            default: return die(top + 1);
        }
    }

    private static int number(int top) {
        return die(6) == 0 ? top : die(6) == 0 ? 0 : die(top + 1);
    }

    private static String blanks() {
        return die(5) == 0 ? "  " : "";
    }

    private static String set(String word, int count, String zero, String one) {
        StringBuilder s = new StringBuilder(word);
        for (int k = 0; k < count; k++) s.append(' ').append(blanks()).append(die(2) == 0 ? zero : one);
        return s.append(blanks()).append(';').toString();
    }

    private static String goodText() {
        StringBuilder s = new StringBuilder();
        if (die(2) == 0) s.append(blanks()).append("cost ").append(number(die(2) == 0 ? 99 : 4)).append(';');
        if (die(2) == 0) s.append("worth").append(blanks()).append(number(die(2) == 0 ? 99 : 9)).append(';');
        if (die(2) == 0) s.append("eye ").append(number(die(2) == 0 ? 50 : 8)).append(blanks()).append(';');
        if (die(2) == 0) s.append("hand ").append(number(die(2) == 0 ? 50 : 8)).append(';').append(blanks());
        if (die(3) == 0) s.append("fade ").append(number(99)).append(die(2) == 0 ? "new " + die(2) : "").append(';');
        if (die(3) == 0) s.append(set("way", 4, "not", "help"));
        if (die(4) == 0) s.append(set("naming", 8, "bad", "good"));
        return s.toString();
    }

    private static String spoilt(String text) {
        StringBuilder s = new StringBuilder(text);
        for (int n = 1 + die(2); n > 0; n--) {
            int at = die(s.length() + 1);
            switch (die(4)) {
                case 0: s.insert(at, WORDS[die(WORDS.length)]); break;
                case 1: if (at < s.length()) s.deleteCharAt(at); break;
                case 2: s.setLength(at); break;
                default: s.append(WORDS[die(WORDS.length)]); break;
            }
        }
        return s.toString();
    }

    private static void tell(SaidOfHim x, Model m, String text) {
        for (int i = 0; i < text.length();) {
            int n = 1 + die(8);
            long bytes = DICE.nextLong();
            for (int k = 0; k < n; k++) bytes = bytes << 8 | (i + k < text.length() ? text.charAt(i + k) : ' ');
            i += n;
            CHECK.due("feed", x.feed(n, bytes), m.feed(n, bytes));
        }
        CHECK.due("read '" + text + "'", x.read(), m.read());
        CHECK.due("fault '" + text + "'", x.fault(), m.faultAt);
        for (int what = 0; what < 10; what++) CHECK.due("village(" + what + ")", x.village(what), m.village(what));
    }

    private static void textRun() {
        SaidOfHim x = new SaidOfHim();
        Model m = new Model();
        for (int n = 0; n < 3; n++) tell(x, m, goodText());
        for (int n = 0; n < 6; n++) tell(x, m, spoilt(goodText()));
        StringBuilder soup = new StringBuilder();
        for (int n = die(9); n > 0; n--) soup.append(WORDS[die(WORDS.length)]).append(die(3) == 0 ? "" : " ");
        tell(x, m, soup.toString());
    }

    private static void mixedRun() {
        SaidOfHim x = new SaidOfHim();
        Model m = new Model();
        // so few that an object is hardly asked more than its 512 calls
        for (int n = 0; n < 6; n++) {
            tell(x, m, goodText());
            for (int k = 0; k < 20; k++) ask(x, m);
        }
    }

    private static void ask(SaidOfHim x, Model m) {
        int rule = near(4095);
        int share = near(1000);
        int way = near(15);
        int what = near(3);
        String at = "(" + rule + ", " + way + ", " + share + ", " + what + ")";
        switch (die(16)) {
            case 0: CHECK.due("step" + at, x.step(rule, share), m.step(rule, share)); break;
            case 1: CHECK.due("from" + at, x.from(rule, share, what), m.from(rule, share, what)); break;
            case 2: CHECK.due("helped" + at, x.helped(rule, share), m.helped(rule, share)); break;
            case 3: CHECK.due("fit" + at, x.fit(rule, what - 1), m.fit(rule, what - 1)); break;
            case 4:
            case 5: CHECK.due("other" + at, x.other(rule, way, share, what), m.other(rule, way, share, what)); break;
            case 6:
            case 7: CHECK.due("gain" + at, x.gain(rule, way, share), m.gain(rule, way, share)); break;
            case 8:
            case 9: CHECK.due("holds" + at, x.holds(rule), m.holds(rule)); break;
            case 10: CHECK.due("bears" + at, x.bears(rule), m.bears(rule)); break;
            case 11: CHECK.due("plain" + at, x.plain(rule), Model.plain(rule)); break;
            case 12: CHECK.due("turned" + at, x.turned(rule), Model.turned(rule)); break;
            case 13:
                int d = near(1);
                int r = near(1);
                CHECK.due("does " + d + " " + r + at, x.does(rule, d, r, what - 1), Model.does(rule, d, r, what - 1));
                break;
            case 14: CHECK.due("least" + at, x.least(rule * 300), m.least(rule * 300)); break;
            default: CHECK.due("village" + at, x.village(what), m.village(what)); break;
        }
    }

    private static void viewRun() {
        SaidOfHim x = new SaidOfHim();
        Model m = new Model();
        for (int n = 0; n < 300; n++) {
            int a = near(5);
            int b = near(5);
            int set = near(63);
            String at = "(" + a + ", " + b + ", " + set + ")";
            switch (die(11)) {
                case 0: CHECK.due("view" + at, x.view(a, b), m.view(a, b)); break;
                case 1: CHECK.due("call" + at, x.call(a, b, set % 3), m.call(a, b, set % 3)); break;
                case 2:
                case 3:
                case 4: CHECK.due("meet" + at, x.meet(a, b, set), m.meet(a, b, set)); break;
                case 5: CHECK.due("kin" + at, x.kin(a, set), m.kin(a, set)); break;
                case 6:
                case 7: CHECK.due("talk" + at, x.talk(a, b), m.talk(a, b)); break;
                case 8: CHECK.due("agreed" + at, x.agreed(b), m.agreed(b)); break;
                case 9: if (die(9) == 0) CHECK.due("forget", x.forget(), m.forget()); break;
                default: if (die(9) == 0) tell(x, m, set("way", 4, "not", "help") + set("naming", 8, "bad", "good")); break;
            }
        }
    }

    private static void survey(int n) {
        SaidOfHim x = new SaidOfHim();
        Model m = new Model();
        // some with neither COST nor WORTH, where very many hold
        tell(x, m, n == 0 ? "cost 0;worth 0;hand 0;eye 0;" : n == 1 ? "cost 0;" : n == 2 ? "worth 99;cost 1;fade 20 new 0;" : goodText());
        for (int least : new int[] {0, 1 + die(999999), 999999, 980099, 499999}) {
            CHECK.due("least", x.least(least), m.least(least));
            int count = m.all(-1);
            CHECK.due("all(-1)", x.all(-1), count);
            for (int k = 0; k < 3; k++) {
                int i = near(count);
                CHECK.due("all(" + i + ")", x.all(i), m.all(i));
            }
            CHECK.due("best(0)", x.best(0), m.best(0));
            CHECK.due("best(1)", x.best(1), m.best(1));
            CHECK.due("kinds()", x.kinds(), m.kinds());
        }
        CHECK.due("best(2)", x.best(2), m.best(2));
        int back = die(900000);
        CHECK.due("least", x.least(back), m.least(back));
        if (n % 3 == 2) CHECK.due("best(2) again", x.best(2), m.best(2));
    }
}
