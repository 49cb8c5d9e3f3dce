import java.math.BigInteger;
import java.util.ArrayList;
import java.util.LinkedHashMap;
import java.util.List;
import java.util.Map;
import java.util.regex.Matcher;
import java.util.regex.Pattern;

/** The document once more, in another way and without thrift, for ModelTest to compare with. */
final class Model {
    static final int OUTSIDE = -1002, UNKNOWN = -1001, FULL = -1004;

    final int[] told = {1, 3, 1, 1, 0, 1, 10, 153};
    int least = 0;
    String text = "";
    int faultAt = -1;
    final int[][] views = new int[6][6];
    final int[] kin = new int[6];
    private List<Integer> holding;
    private Map<Integer, Integer> aid;

    Model() {
        for (int[] row : views) java.util.Arrays.fill(row, 1);
    }

    // ---- the text

    private static final Map<String, String> FORMS = new LinkedHashMap<>();
    static {
        FORMS.put("cost", "#0 ;");
        FORMS.put("worth", "#1 ;");
        FORMS.put("hand", "#2 ;");
        FORMS.put("eye", "#3 ;");
        FORMS.put("fade", "#4 ?");
        FORMS.put("way", "w0 w1 w2 w3 ;");
        FORMS.put("naming", "n0 n1 n2 n3 n4 n5 n6 n7 ;");
    }
    private static final int[] FIRST = {1, 3, 1, 1, 0, 1, 10, 153};
    private static final int[] TOP = {99, 99, 50, 50, 99, 1};

    int feed(int n, long bytes) {
        if (n < 1 || n > 8) return OUTSIDE;
        if (text.length() + n > 120) return FULL;
        for (int k = n - 1; k >= 0; k--) text += (char) (bytes >>> 8 * k & 255);
        return text.length();
    }

    int read() {
        String whole = text;
        text = "";
        faultAt = -1;
        int[] draft = FIRST.clone();
        draft[6] = 0;
        draft[7] = 0;
        List<String> seen = new ArrayList<>();
        List<String> due = new ArrayList<>();
        Matcher m = Pattern.compile("[a-z]+|[0-9]+|[^a-z0-9]", Pattern.DOTALL).matcher(whole);
        while (m.find()) {
            String token = m.group();
            if (token.equals(" ")) continue;
            int number = due.isEmpty() ? opening(token, seen, due) : inside(token, due, draft);
            if (number != 0) {
                faultAt = m.start();
                return -10 - number;
            }
        }
        if (!due.isEmpty()) {
            faultAt = whole.length();
            return -11;
        }
        if (!seen.contains("way")) draft[6] = 10;
        if (!seen.contains("naming")) draft[7] = 153;
        System.arraycopy(draft, 0, told, 0, 8);
        holding = null;
        return seen.size();
    }

    private static int opening(String token, List<String> seen, List<String> due) {
        if (!FORMS.containsKey(token)) return 1;
        if (seen.contains(token)) return 3;
        seen.add(token);
        due.addAll(List.of(FORMS.get(token).split(" ")));
        return 0;
    }

    private static int inside(String token, List<String> due, int[] draft) {
        String want = due.remove(0);
        int k = want.length() > 1 ? want.charAt(1) - '0' : 0;
        switch (want.charAt(0)) {
            case '#':
                if (!token.matches("[0-9]+")) return 1;
                if (token.length() > 2 || Integer.parseInt(token) > TOP[k]) return 2;
                draft[k] = Integer.parseInt(token);
                return 0;
            case '?':
                if (token.equals("new")) {
                    due.add("#5");
                    due.add(";");
                    return 0;
                }
                return token.equals(";") ? 0 : 1;
            case 'w':
                if (token.equals("help")) draft[6] += 1 << k;
                return token.equals("help") || token.equals("not") ? 0 : 1;
            case 'n':
                if (token.equals("good")) draft[7] += 1 << k;
                return token.equals("good") || token.equals("bad") ? 0 : 1;
            default:
                return token.equals(";") ? 0 : 1;
        }
    }

    int village(int what) {
        if (what < 0 || what > 9) return OUTSIDE;
        return what == 8 ? least : what == 9 ? text.length() : told[what];
    }

    int least(int v) {
        if (v < 0 || v > 999999) return OUTSIDE;
        int was = least;
        least = v;
        return was;
    }

    static int does(int rule, int d, int r, int deed) {
        if (rule < 0 || rule > 4095 || d < 0 || d > 1 || r < 0 || r > 1 || deed < -1 || deed > 1) return OUTSIDE;
        int way = rule % 16;
        int naming = rule / 16;
        return deed < 0 ? way >> (2 * d + r) & 1 : naming >> (4 * d + 2 * r + deed) & 1;
    }

    // ---- shares

    private static BigInteger big(long v) {
        return BigInteger.valueOf(v);
    }

    /** How often of 10 to the 4 one that means so is called GOOD. */
    private long good(int rule, int d, int r, int meant, int eye) {
        long sum = 0;
        for (int deed = 0; deed < 2; deed++) {
            int hand = told[2];
            int often = meant == 1 ? (deed == 1 ? 100 - hand : hand) : (deed == 1 ? 0 : 100);
            for (int wrong = 0; wrong < 2; wrong++) {
                int name = does(rule, d, r, deed) ^ wrong;
                if (name == 1) sum += (long) often * (wrong == 1 ? eye : 100 - eye);
            }
        }
        return sum;
    }

    private static int share(int name, int x) {
        return name == 1 ? x : 1000 - x;
    }

    int step(int rule, int x) {
        return step(rule, x, told[3]);
    }

    int step(int rule, int x, int eye) {
        if (rule < 0 || rule > 4095 || x < 0 || x > 1000) return OUTSIDE;
        long sum = 0;
        for (int d = 0; d < 2; d++) {
            for (int r = 0; r < 2; r++) {
                sum += share(d, x) * share(r, x) * good(rule, d, r, does(rule, d, r, -1), eye);
            }
        }
        long cut = sum / 10_000_000;
        return (int) (((100 - told[4]) * cut + told[4] * 1000 * told[5]) / 100);
    }

    int from(int rule, int x, int what) {
        if (what < 0 || what > 2) return OUTSIDE;
        return from(rule, x, what, told[3]);
    }

    int from(int rule, int x, int what, int eye) {
        if (rule < 0 || rule > 4095 || x < 0 || x > 1000) return OUTSIDE;
        List<Integer> seen = new ArrayList<>();
        while (!seen.contains(x)) {
            seen.add(x);
            x = step(rule, x, eye);
        }
        int lead = seen.indexOf(x);
        int ring = seen.size() - lead;
        return what == 0 ? (ring == 1 ? x : -1) : what == 1 ? lead : ring;
    }

    int helped(int rule, int x) {
        if (rule < 0 || rule > 4095 || x < 0 || x > 1000) return OUTSIDE;
        long sum = 0;
        for (int k = 0; k < 4; k++) {
            if (does(rule, k / 2, k % 2, -1) == 1) sum += share(k / 2, x) * share(k % 2, x);
        }
        return (int) (sum * (100 - told[2]) / 100);
    }

    int fit(int rule, int i) {
        if (rule < 0 || rule > 4095) return OUTSIDE;
        List<Integer> found = new ArrayList<>();
        for (int x = 0; x <= 1000; x++) if (step(rule, x) == x) found.add(x);
        return i == -1 ? found.size() : i >= 0 && i < found.size() ? found.get(i) : -1;
    }

    // ---- others

    /** y, z and the upper and lower number of HAS, in least terms. */
    private BigInteger[] another(int rule, int q, int x, int eye) {
        long u = 0;
        long v = 0;
        for (int r = 0; r < 2; r++) {
            u += share(r, x) * good(rule, 1, r, does(q, 1, r, -1), eye);
            v += share(r, x) * good(rule, 0, r, does(q, 0, r, -1), eye);
        }
        long y = v;
        long z = 10_000_000 - u + v;
        if (z == 0) z = 1;
        BigInteger upper = BigInteger.ZERO;
        for (int own = 0; own < 2; own++) {
            for (int peer = 0; peer < 2; peer++) {
                long once = (long) (does(rule, peer, own, -1) * told[1] - does(q, own, peer, -1) * told[0]) * share(peer, x) * (100 - told[2]);
                upper = upper.add(big(once).multiply(big(own == 1 ? y : z - y)));
            }
        }
        BigInteger lower = big(z).multiply(big(100_000));
        BigInteger g = big(y).gcd(big(z));
        BigInteger h = upper.gcd(lower);
        return new BigInteger[] {big(y).divide(g), big(z).divide(g), upper.divide(h), lower.divide(h)};
    }

    long other(int rule, int q, int x, int what) {
        if (rule < 0 || rule > 4095 || q < 0 || q > 15 || x < 0 || x > 1000 || what < 0 || what > 3) return OUTSIDE;
        return another(rule, q, x, told[3])[what].longValueExact();
    }

    int gain(int rule, int q, int x) {
        return gain(rule, q, x, told[3]);
    }

    int gain(int rule, int q, int x, int eye) {
        if (rule < 0 || rule > 4095 || q < 0 || q > 15 || x < 0 || x > 1000) return OUTSIDE;
        BigInteger[] a = another(rule, q, x, eye);
        BigInteger[] b = another(rule, rule % 16, x, eye);
        return a[2].multiply(b[3]).compareTo(b[2].multiply(a[3]));
    }

    int holds(int rule) {
        return holds(rule, told[3]);
    }

    int holds(int rule, int eye) {
        if (rule < 0 || rule > 4095) return OUTSIDE;
        int x = from(rule, 500, 0, eye);
        if (x < 0) return 0;
        for (int q = 0; q < 16; q++) if (gain(rule, q, x, eye) > 0) return -2 - q;
        return 1;
    }

    private List<Integer> holding() {
        if (holding == null) {
            holding = new ArrayList<>();
            aid = new LinkedHashMap<>();
            for (int rule = 0; rule < 4096; rule++) {
                if (holds(rule) != 1) continue;
                holding.add(rule);
                aid.put(rule, helped(rule, from(rule, 500, 0)));
            }
        }
        List<Integer> some = new ArrayList<>();
        for (int rule : holding) if (aid.get(rule) > least) some.add(rule);
        return some;
    }

    int all(int i) {
        List<Integer> some = holding();
        return i == -1 ? some.size() : i >= 0 && i < some.size() ? some.get(i) : -1;
    }

    int best(int what) {
        if (what < 0 || what > 2) return OUTSIDE;
        List<Integer> some = holding();
        if (some.isEmpty()) return -1;
        int most = some.get(0);
        for (int rule : some) if (aid.get(rule) > aid.get(most)) most = rule;
        if (what == 0) return most;
        int best = -1;
        int mark = Integer.MIN_VALUE;
        for (int rule : some) {
            if (what == 2 && !aid.get(rule).equals(aid.get(most))) continue;
            int now = what == 1 ? -plain(rule) : bears(rule);
            if (now > mark) {
                mark = now;
                best = rule;
            }
        }
        return best;
    }

    static int plain(int rule) {
        if (rule < 0 || rule > 4095) return OUTSIDE;
        boolean[] on = new boolean[5];
        for (int d = 0; d < 2; d++) {
            for (int r = 0; r < 2; r++) {
                on[0] |= does(rule, d, r, -1) != does(rule, 1 - d, r, -1);
                on[1] |= does(rule, d, r, -1) != does(rule, d, 1 - r, -1);
                for (int deed = 0; deed < 2; deed++) {
                    on[2] |= does(rule, d, r, deed) != does(rule, 1 - d, r, deed);
                    on[3] |= does(rule, d, r, deed) != does(rule, d, 1 - r, deed);
                    on[4] |= does(rule, d, r, deed) != does(rule, d, r, 1 - deed);
                }
            }
        }
        int count = 0;
        for (boolean b : on) if (b) count++;
        return count;
    }

    int bears(int rule) {
        if (rule < 0 || rule > 4095) return OUTSIDE;
        for (int e = 0; e <= 50; e++) if (holds(rule, e) != 1) return e - 1;
        return 50;
    }

    static int turned(int rule) {
        if (rule < 0 || rule > 4095) return OUTSIDE;
        int turned = 0;
        for (int d = 0; d < 2; d++) {
            for (int r = 0; r < 2; r++) {
                turned += does(rule, 1 - d, 1 - r, -1) << (2 * d + r);
                for (int deed = 0; deed < 2; deed++) {
                    turned += (1 - does(rule, 1 - d, 1 - r, deed)) << (4 + 4 * d + 2 * r + deed);
                }
            }
        }
        return turned;
    }

    int kinds() {
        java.util.Set<Integer> kinds = new java.util.HashSet<>();
        for (int rule : holding()) kinds.add(Math.min(rule, turned(rule)));
        return kinds.size();
    }

    // ---- views

    private static boolean person(int p) {
        return p >= 0 && p < 6;
    }

    int view(int p, int c) {
        return person(p) && person(c) ? views[p][c] : UNKNOWN;
    }

    int call(int p, int c, int v) {
        if (!person(p) || !person(c)) return UNKNOWN;
        if (v != 0 && v != 1) return OUTSIDE;
        int was = views[p][c];
        views[p][c] = v;
        return was;
    }

    int meet(int a, int b, int wrong) {
        if (!person(a) || !person(b) || a == b || wrong < 0 || wrong > 63) return UNKNOWN;
        int rule = 16 * told[7] + told[6];
        int deed = does(rule, views[a][a], views[a][b], -1);
        for (int p = 0; p < 6; p++) {
            int seen = (wrong >> p & 1) == 1 ? 1 - deed : deed;
            views[p][a] = does(rule, views[p][a], views[p][b], seen);
        }
        return deed;
    }

    int kin(int p, int set) {
        if (!person(p) || set < 0 || set > 63 || (set >> p & 1) == 1) return UNKNOWN;
        int was = kin[p];
        kin[p] = set;
        return was;
    }

    int talk(int a, int b) {
        if (!person(a) || !person(b) || a == b) return UNKNOWN;
        int changes = 0;
        for (int c = 0; c < 6; c++) {
            if (c == a || c == b) continue;
            int heard = (kin[a] >> c & 1) == 1 ? 1 : views[a][c];
            if (views[b][c] != heard) changes++;
            views[b][c] = heard;
        }
        return changes;
    }

    int agreed(int what) {
        if (what < 0 || what > 2) return OUTSIDE;
        int pairs = 0;
        int alike = 0;
        int good = 0;
        for (int k = 0; k < 6; k++) {
            int here = 0;
            for (int i = 0; i < 6; i++) {
                for (int j = i + 1; j < 6; j++) if (views[i][k] == views[j][k]) here++;
            }
            pairs += here;
            if (here == 15) alike++;
            if (here == 15 && views[0][k] == 1) good++;
        }
        return what == 0 ? pairs : what == 1 ? alike : good;
    }

    int forget() {
        int bad = 0;
        for (int p = 0; p < 6; p++) {
            for (int c = 0; c < 6; c++) {
                bad += 1 - views[p][c];
                views[p][c] = 1;
            }
            kin[p] = 0;
        }
        return bad;
    }
}
