import java.math.BigInteger;
import java.util.ArrayList;
import java.util.Arrays;
import java.util.HashMap;
import java.util.List;
import java.util.Map;
import java.util.TreeSet;

/**
 * The document told once more, as plainly as can be and by other ways than the program's: it tries all, and
 * reckons with BigInteger. The random runs compare the program with it, call by call.
 */
final class ShedModel {
    static final BigInteger BASE = BigInteger.valueOf(1073741824);

    private static final class Weaver {
        int place, face;
        boolean[] tell = new boolean[12], look = new boolean[12];
    }

    private static final class Word {
        int n, lips, weight;

        int lip(int i) {
            int v = lips;
            for (int k = n - 1; k > i; k--) {
                v /= 6;
            }
            return v % 6;
        }
    }

    private static final class Seen {
        int weaver, second;
        boolean knew;
    }

    /** What an image keeps. */
    private static final class State {
        TreeSet<Integer> pillars = new TreeSet<>();
        List<Weaver> weavers = new ArrayList<>();
        int[] far = {18, 50};
        List<Seen> seen = new ArrayList<>();
        boolean[][] like = new boolean[6][6];
        List<Word> words = new ArrayList<>();
        List<Integer> row = new ArrayList<>();
        int plain = 20, girl = 0;
        int[] level = new int[6], loss = new int[6];

        State() {
            for (int i = 0; i < 6; i++) {
                like[i][i] = true;
            }
        }

        State copy() {
            State s = new State();
            s.pillars = new TreeSet<>(pillars);
            for (Weaver w : weavers) {
                Weaver c = new Weaver();
                c.place = w.place;
                c.face = w.face;
                c.tell = w.tell.clone();
                c.look = w.look.clone();
                s.weavers.add(c);
            }
            s.far = far.clone();
            s.seen = new ArrayList<>(seen);
            for (int i = 0; i < 6; i++) {
                s.like[i] = like[i].clone();
            }
            s.words = new ArrayList<>(words);
            s.row = new ArrayList<>(row);
            s.plain = plain;
            s.girl = girl;
            s.level = level.clone();
            s.loss = loss.clone();
            return s;
        }
    }

    private State now = new State();
    private final State[] images = new State[2];
    private List<Integer> text = new ArrayList<>();
    private BigInteger above = BigInteger.ZERO, below = BigInteger.ONE;

    private static boolean in(int v, int least, int most) {
        return v >= least && v <= most;
    }

    private boolean isWeaver(int w) {
        return in(w, 0, now.weavers.size() - 1);
    }

    private boolean isWord(int w) {
        return in(w, 0, now.words.size() - 1);
    }

    private Weaver at(int place) {
        for (Weaver w : now.weavers) {
            if (w.place == place) {
                return w;
            }
        }
        return null;
    }

    int pillar(int place) {
        if (!in(place, 0, 63) || at(place) != null) {
            return -2;
        }
        return now.pillars.add(place) ? 1 : -3;
    }

    int weaver(int place, int face) {
        if (!in(place, 0, 63) || !in(face, 0, 3) || at(place) != null || now.pillars.contains(place)) {
            return -2;
        }
        if (now.weavers.size() == 8) {
            return -4;
        }
        Weaver w = new Weaver();
        w.place = place;
        w.face = face;
        Arrays.fill(w.tell, true);
        Arrays.fill(w.look, true);
        now.weavers.add(w);
        return now.weavers.size() - 1;
    }

    int face(int weaver, int face) {
        if (!isWeaver(weaver) || !in(face, 0, 3)) {
            return -2;
        }
        int was = now.weavers.get(weaver).face;
        now.weavers.get(weaver).face = face;
        return was;
    }

    int free(int weaver, int what, int a, int b) {
        if (!isWeaver(weaver) || !in(what, 0, 1) || !in(a, 0, 11) || !in(b, 0, 11) || a > b) {
            return -2;
        }
        Weaver w = now.weavers.get(weaver);
        boolean[] seconds = what == 0 ? w.tell : w.look;
        for (int t = 0; t < 12; t++) {
            seconds[t] = t >= a && t <= b;
        }
        return 1;
    }

    int far(int what, int v) {
        if (!in(what, 0, 1) || !in(v, 1, 98)) {
            return -2;
        }
        int was = now.far[what];
        now.far[what] = v;
        return was;
    }

    private static double[] facing(int face) {
        return new double[][] {{-1, 0}, {0, 1}, {1, 0}, {0, -1}}[face];
    }

    private static double by(int from, int to, int face) {
        double[] f = facing(face);
        return f[0] * (to / 8 - from / 8) + f[1] * (to % 8 - from % 8);
    }

    private static int square(int p, int q) {
        int r = p / 8 - q / 8, c = p % 8 - q % 8;
        return r * r + c * c;
    }

    private boolean clearWay(int p, int q) {
        for (int pillar : now.pillars) {
            double dr = q / 8 - p / 8, dc = q % 8 - p % 8;
            double t = ((pillar / 8 - p / 8) * dr + (pillar % 8 - p % 8) * dc) / (dr * dr + dc * dc);
            t = Math.max(0, Math.min(1, t));
            double r = p / 8 + t * dr - pillar / 8, c = p % 8 + t * dc - pillar % 8;
            if (Math.sqrt(r * r + c * c) < 0.5 - 1e-9) {
                return false;
            }
        }
        return true;
    }

    private boolean reads(int p, int faceP, int q, int faceQ) {
        return by(p, q, faceP) > 0 && by(q, p, faceQ) > 0 && square(p, q) <= now.far[0] && clearWay(p, q);
    }

    private boolean perceives(int a, int b, int what) {
        Weaver wa = now.weavers.get(a), wb = now.weavers.get(b);
        if (a == b) {
            return false;
        }
        if (what == 0) {
            return reads(wa.place, wa.face, wb.place, wb.face);
        }
        return by(wa.place, wb.place, wa.face) > 0 && by(wb.place, wa.place, wb.face) >= 0
            && square(wa.place, wb.place) <= now.far[1] && clearWay(wa.place, wb.place);
    }

    int sees(int a, int b, int what) {
        if (!isWeaver(a) || !isWeaver(b) || a == b || !in(what, 0, 1)) {
            return -2;
        }
        return perceives(a, b, what) ? 1 : 0;
    }

    int clear(int a, int b) {
        if (!isWeaver(a) || !isWeaver(b) || a == b) {
            return -2;
        }
        return clearWay(now.weavers.get(a).place, now.weavers.get(b).place) ? 1 : 0;
    }

    /** Of each weaver since when she knows and who told her. */
    private int[][] spread(int a, int s, int by, int x) {
        int n = now.weavers.size();
        int[] since = new int[n], teller = new int[n];
        Arrays.fill(since, -1);
        Arrays.fill(teller, -1);
        since[a] = s;
        boolean[][] sees = new boolean[n][n];
        for (int u = 0; u < n; u++) {
            for (int v = 0; v < n; v++) {
                sees[u][v] = perceives(u, v, by);
            }
        }
        for (int t = s; t + 1 <= 240; t++) {
            for (int u = 0; u < n; u++) {
                if (since[u] != -1 || u == x || !now.weavers.get(u).look[t % 12]) {
                    continue;
                }
                for (int v = n - 1; v >= 0; v--) {
                    boolean knew = since[v] != -1 && since[v] <= t;
                    boolean caught = x != -1 && (perceives(x, v, 0) || perceives(x, v, 1))
                        && now.weavers.get(x).look[t % 12];
                    if (knew && now.weavers.get(v).tell[t % 12] && sees[u][v] && !caught) {
                        since[u] = t + 1;
                        teller[u] = v;
                    }
                }
            }
        }
        return new int[][] {since, teller};
    }

    private boolean badNews(int a, int w, int by, int x) {
        return !isWeaver(a) || !isWeaver(w) || !in(by, 0, 1) || x != -1 && !isWeaver(x) || x == a;
    }

    int knows(int a, int w, int by, int x) {
        return badNews(a, w, by, x) ? -10 : spread(a, 0, by, x)[0][w];
    }

    int teller(int a, int w, int by, int x) {
        return badNews(a, w, by, x) ? -10 : spread(a, 0, by, x)[1][w];
    }

    int meet(int a, int b, int s, int w) {
        if (!isWeaver(a) || !isWeaver(b) || a == b || !in(s, 0, 240) || !isWeaver(w)) {
            return -10;
        }
        int first = spread(a, 0, 0, -1)[0][w], other = spread(b, s, 0, -1)[0][w];
        if (first == other) {
            return first == -1 ? -1 : 2;
        }
        return first != -1 && (other == -1 || first < other) ? 0 : 1;
    }

    int seen(int weaver, int second, boolean knew) {
        if (!isWeaver(weaver) || !in(second, 0, 240)) {
            return -2;
        }
        if (now.seen.size() == 10) {
            return -4;
        }
        Seen s = new Seen();
        s.weaver = weaver;
        s.second = second;
        s.knew = knew;
        now.seen.add(s);
        return now.seen.size();
    }

    int source() {
        int bits = 0;
        for (int a = 0; a < now.weavers.size(); a++) {
            int[] since = spread(a, 0, 0, -1)[0];
            boolean all = true;
            for (Seen s : now.seen) {
                all &= (since[s.weaver] != -1 && since[s.weaver] <= s.second) == s.knew;
            }
            bits |= all ? 1 << a : 0;
        }
        return bits;
    }

    /** All ways, each as the bits of those between, then the most of them that share nobody. */
    int apart(int a, int b) {
        if (!isWeaver(a) || !isWeaver(b) || a == b) {
            return -2;
        }
        TreeSet<Integer> ways = new TreeSet<>();
        walk(a, b, 0, 1 << a, ways);
        int direct = ways.remove(0) ? 1 : 0;
        return direct + pack(new ArrayList<>(ways), 0, 0);
    }

    private void walk(int u, int b, int between, int been, TreeSet<Integer> ways) {
        for (int v = 0; v < now.weavers.size(); v++) {
            if ((been >> v & 1) == 1 || !perceives(v, u, 0)) {
                continue;
            }
            if (v == b) {
                ways.add(between);
            } else {
                walk(v, b, between | 1 << v, been | 1 << v, ways);
            }
        }
    }

    private int pack(List<Integer> ways, int i, int used) {
        int best = 0;
        for (int k = i; k < ways.size(); k++) {
            if ((ways.get(k) & used) == 0) {
                best = Math.max(best, 1 + pack(ways, k + 1, used | ways.get(k)));
            }
        }
        return best;
    }

    int like(int a, int b) {
        if (!in(a, 0, 5) || !in(b, 0, 5)) {
            return -2;
        }
        if (now.like[a][b]) {
            return -3;
        }
        now.like[a][b] = true;
        now.like[b][a] = true;
        for (int k = 0; k < 6; k++) {
            for (int i = 0; i < 6; i++) {
                for (int j = 0; j < 6; j++) {
                    now.like[i][j] |= now.like[i][k] && now.like[k][j];
                }
            }
        }
        return 1;
    }

    int word(int n, int lips, int weight) {
        if (!in(n, 1, 6) || lips < 0 || lips >= Math.pow(6, n) || !in(weight, 1, 9)) {
            return -2;
        }
        if (now.words.size() == 10) {
            return -4;
        }
        Word w = new Word();
        w.n = n;
        w.lips = lips;
        w.weight = weight;
        now.words.add(w);
        return now.words.size() - 1;
    }

    private int unlike(Word a, Word b) {
        int unlike = 0;
        for (int i = 0; i < a.n; i++) {
            unlike += now.like[a.lip(i)][b.lip(i)] ? 0 : 1;
        }
        return unlike;
    }

    private boolean areAlike(int a, int b) {
        Word x = now.words.get(a), y = now.words.get(b);
        return x.n == y.n && unlike(x, y) == 0;
    }

    int alike(int a, int b) {
        return !isWord(a) || !isWord(b) ? -2 : areAlike(a, b) ? 1 : 0;
    }

    int lip(int lip) {
        if (!in(lip, 0, 5)) {
            return -2;
        }
        if (now.row.size() == 24) {
            return -4;
        }
        now.row.add(lip);
        return now.row.size();
    }

    int hush() {
        int had = now.row.size();
        now.row.clear();
        return had;
    }

    private boolean fits(int w, int from) {
        Word word = now.words.get(w);
        if (from + word.n > now.row.size()) {
            return false;
        }
        for (int i = 0; i < word.n; i++) {
            if (!now.like[word.lip(i)][now.row.get(from + i)]) {
                return false;
            }
        }
        return true;
    }

    private BigInteger readings(int from, Map<Integer, BigInteger> known) {
        if (from == now.row.size()) {
            return BigInteger.ONE;
        }
        if (!known.containsKey(from)) {
            BigInteger sum = BigInteger.ZERO;
            for (int w = 0; w < now.words.size(); w++) {
                if (fits(w, from)) {
                    sum = sum.add(readings(from + now.words.get(w).n, known));
                }
            }
            known.put(from, sum);
        }
        return known.get(from);
    }

    private int weight(List<Integer> reading) {
        int sum = 0;
        for (int w : reading) {
            sum += now.words.get(w).weight;
        }
        return sum;
    }

    private boolean better(List<Integer> a, List<Integer> b) {
        if (a.size() != b.size()) {
            return a.size() < b.size();
        }
        if (weight(a) != weight(b)) {
            return weight(a) > weight(b);
        }
        for (int i = 0; i < a.size(); i++) {
            if (!a.get(i).equals(b.get(i))) {
                return a.get(i) < b.get(i);
            }
        }
        return false;
    }

    /** The best reading of the first so many lips, from the row's beginning on. */
    private List<Integer> best(int upTo, Map<Integer, List<Integer>> known) {
        if (upTo == 0) {
            return new ArrayList<>();
        }
        if (!known.containsKey(upTo)) {
            List<Integer> best = null;
            for (int w = 0; w < now.words.size(); w++) {
                int from = upTo - now.words.get(w).n;
                if (from < 0 || !fits(w, from) || best(from, known) == null) {
                    continue;
                }
                List<Integer> reading = new ArrayList<>(best(from, known));
                reading.add(w);
                if (best == null || better(reading, best)) {
                    best = reading;
                }
            }
            known.put(upTo, best);
        }
        return known.get(upTo);
    }

    int reads(int what) {
        if (!in(what, -1, 24)) {
            return -10;
        }
        if (what == -1) {
            return readings(0, new HashMap<>()).mod(BigInteger.valueOf(1000000007)).intValue();
        }
        List<Integer> best = best(now.row.size(), new HashMap<>());
        if (best == null) {
            return -5;
        }
        return what == 24 ? best.size() : what < best.size() ? best.get(what) : -5;
    }

    private int mistakes(int signs) {
        int sum = 0;
        for (int a = 0; a < now.words.size(); a++) {
            for (int b = 0; b < a; b++) {
                if ((signs >> a & 1) == 0 && (signs >> b & 1) == 0 && areAlike(a, b)) {
                    sum += now.words.get(a).weight * now.words.get(b).weight;
                }
            }
        }
        return sum;
    }

    int mistaken(int signs) {
        return signs < 0 || signs >= 1 << now.words.size() ? -2 : mistakes(signs);
    }

    int signs(int k) {
        if (!in(k, 0, now.words.size())) {
            return -2;
        }
        int best = -1;
        for (int bits = (1 << now.words.size()) - 1; bits >= 0; bits--) {
            if (Integer.bitCount(bits) == k && (best == -1 || mistakes(bits) <= mistakes(best))) {
                best = bits;
            }
        }
        return best;
    }

    int plain(int v) {
        if (!in(v, 1, 99)) {
            return -2;
        }
        int was = now.plain;
        now.plain = v;
        return was;
    }

    private int heardWeight(int w, int as) {
        Word a = now.words.get(w), b = now.words.get(as);
        if (w == as) {
            return now.plain;
        }
        return a.n != b.n ? 0 : b.weight / (1 << unlike(a, b));
    }

    /** The chance of each word behind n hearers: above in [0], below in [1]. */
    private BigInteger[][] chances(int word, int n) {
        int words = now.words.size();
        BigInteger[][] chance = new BigInteger[words][];
        for (int w = 0; w < words; w++) {
            chance[w] = new BigInteger[] {w == word ? BigInteger.ONE : BigInteger.ZERO, BigInteger.ONE};
        }
        for (int i = 0; i < n; i++) {
            BigInteger[][] next = new BigInteger[words][];
            for (int as = 0; as < words; as++) {
                next[as] = new BigInteger[] {BigInteger.ZERO, BigInteger.ONE};
                for (int w = 0; w < words; w++) {
                    int total = 0;
                    for (int k = 0; k < words; k++) {
                        total += heardWeight(w, k);
                    }
                    next[as] = sum(next[as], new BigInteger[] {
                        chance[w][0].multiply(BigInteger.valueOf(heardWeight(w, as))),
                        chance[w][1].multiply(BigInteger.valueOf(total))});
                }
            }
            chance = next;
        }
        return chance;
    }

    private static BigInteger[] sum(BigInteger[] a, BigInteger[] b) {
        return lowest(a[0].multiply(b[1]).add(b[0].multiply(a[1])), a[1].multiply(b[1]));
    }

    private static BigInteger[] lowest(BigInteger a, BigInteger b) {
        BigInteger g = a.gcd(b);
        return new BigInteger[] {a.divide(g), b.divide(g)};
    }

    private void setFraction(BigInteger[] f) {
        above = f[0];
        below = f[1];
    }

    int arrives(int word, int as, int n) {
        if (!isWord(word) || !isWord(as) || !in(n, 1, 12)) {
            return -2;
        }
        BigInteger[] f = chances(word, n)[as];
        setFraction(lowest(f[0], f[1]));
        return 1;
    }

    int turns(int word, int a, int b) {
        if (!isWord(word) || !in(a, 0, 99) || !in(b, 1, 99)) {
            return -10;
        }
        for (int n = 1; n <= 12; n++) {
            BigInteger[] f = chances(word, n)[word];
            if (f[0].multiply(BigInteger.valueOf(b)).compareTo(f[1].multiply(BigInteger.valueOf(a))) < 0) {
                return n;
            }
        }
        return -1;
    }

    int girl(int words) {
        if (words < 0 || words >= 1 << now.words.size()) {
            return -2;
        }
        int knew = now.girl;
        now.girl = words;
        return knew;
    }

    private int gotten(int known) {
        int bits = 0;
        for (int w = 0; w < now.words.size(); w++) {
            boolean got = (known >> w & 1) == 1;
            for (int o = 0; o < now.words.size(); o++) {
                int more = now.words.get(o).weight - now.words.get(w).weight;
                if (o != w && (known >> o & 1) == 1 && areAlike(o, w) && (more > 0 || more == 0 && o < w)) {
                    got = false;
                }
            }
            bits |= got ? 1 << w : 0;
        }
        return bits;
    }

    private int weightOf(int bits) {
        int sum = 0;
        for (int w = 0; w < now.words.size(); w++) {
            sum += (bits >> w & 1) * now.words.get(w).weight;
        }
        return sum;
    }

    int gets() {
        return gotten(now.girl);
    }

    int share() {
        if (now.words.isEmpty()) {
            return -3;
        }
        setFraction(lowest(BigInteger.valueOf(weightOf(gets())), BigInteger.valueOf(weightOf(-1))));
        return 1;
    }

    int teach(int k) {
        if (!in(k, 0, now.words.size() - Integer.bitCount(now.girl))) {
            return -2;
        }
        int best = -1, most = -1;
        for (int bits = (1 << now.words.size()) - 1; bits >= 0; bits--) {
            if ((bits & now.girl) == 0 && Integer.bitCount(bits) == k && weightOf(gotten(bits | now.girl)) >= most) {
                best = bits;
                most = weightOf(gotten(bits | now.girl));
            }
        }
        return best;
    }

    int band(int band, int level, int loss) {
        if (!in(band, 0, 5) || !in(level, 0, 99) || !in(loss, 0, 9)) {
            return -2;
        }
        now.level[band] = level;
        now.loss[band] = loss;
        return 1;
    }

    int heard(int years, int noise) {
        if (!in(years, 0, 60) || !in(noise, 0, 99)) {
            return -2;
        }
        int bits = 0;
        for (int i = 0; i < 6; i++) {
            bits |= now.level[i] - now.loss[i] * years > noise ? 1 << i : 0;
        }
        return bits;
    }

    int anew(int least, int what) {
        int n = now.weavers.size();
        if (!in(least, 0, 1) || what != -1 && !isWeaver(what)) {
            return -10;
        }
        if (n > 6) {
            return -20;
        }
        boolean[][] near = new boolean[n][n];
        for (int i = 0; i < n; i++) {
            for (int j = 0; j < i; j++) {
                int p = now.weavers.get(i).place, q = now.weavers.get(j).place;
                near[i][j] = square(p, q) <= now.far[0] && clearWay(p, q);
            }
        }
        int best = -1, bestWays = 0;
        for (int ways = 0; ways < Math.pow(4, n); ways++) {
            int pairs = 0;
            for (int i = 0; i < n; i++) {
                for (int j = 0; j < i; j++) {
                    int p = now.weavers.get(i).place, q = now.weavers.get(j).place;
                    pairs += near[i][j] && by(p, q, way(ways, i, n)) > 0 && by(q, p, way(ways, j, n)) > 0 ? 1 : 0;
                }
            }
            if (best == -1 || (least == 1 ? pairs < best : pairs > best)) {
                best = pairs;
                bestWays = ways;
            }
        }
        return what == -1 ? best : way(bestWays, what, n);
    }

    private static int way(int ways, int weaver, int n) {
        for (int i = n - 1; i > weaver; i--) {
            ways /= 4;
        }
        return ways % 4;
    }

    int type(long v, int n) {
        if (!in(n, 1, 8)) {
            return -2;
        }
        if (text.size() + n > 240) {
            return -4;
        }
        for (int i = 0; i < n; i++) {
            long rest = v;
            for (int k = i + 1; k < n; k++) {
                rest >>= 8;
            }
            text.add((int) (rest & 255));
        }
        return text.size();
    }

    int erase() {
        int had = text.size();
        text.clear();
        return had;
    }

    private static final class Token {
        String kind;
        String sign;
        int at;
    }

    private List<Token> tokens() {
        StringBuilder b = new StringBuilder();
        for (int v : text) {
            b.append((char) v);
        }
        List<Token> tokens = new ArrayList<>();
        java.util.regex.Matcher m = java.util.regex.Pattern
            .compile("(?s)([a-z]+)|([0-9]+)|(;)|( +)|(.)").matcher(b);
        while (m.find()) {
            if (m.group(4) != null) {
                continue;
            }
            Token t = new Token();
            t.at = m.start();
            t.sign = m.group();
            t.kind = m.group(1) != null ? t.sign : m.group(2) != null && t.sign.length() <= 3 ? "#" : t.sign;
            tokens.add(t);
        }
        return tokens;
    }

    int shed() {
        List<List<Token>> items = new ArrayList<>();
        List<Token> item = new ArrayList<>();
        for (Token t : tokens()) {
            StringBuilder form = new StringBuilder();
            for (Token u : item) {
                form.append(u.kind).append(' ');
            }
            form.append(t.kind).append(' ');
            if (!mayBegin(form.toString())) {
                return -10 - t.at;
            }
            item.add(t);
            if (t.kind.equals(";")) {
                items.add(item);
                item = new ArrayList<>();
            }
        }
        if (!item.isEmpty()) {
            return -10 - text.size();
        }
        State before = now;
        now = new State();
        now.plain = before.plain;
        now.level = before.level;
        now.loss = before.loss;
        for (int i = 0; i < items.size(); i++) {
            if (tell(items.get(i)) < 0) {
                now = before;
                return -1000 - i;
            }
        }
        return items.size();
    }

    private static boolean mayBegin(String form) {
        String[] forms = {"pillar # ; ", "weaver # # ; ", "tell # # # ; ", "look # # # ; ", "far # # ; ", "like # # ; ",
            "word # # ; ", "word # # # ; ", "word # # # # ; ", "word # # # # # ; ", "word # # # # # # ; ",
            "word # # # # # # # ; "};
        for (String f : forms) {
            if (f.startsWith(form)) {
                return true;
            }
        }
        return false;
    }

    private int tell(List<Token> item) {
        int[] n = new int[item.size() - 2];
        for (int i = 0; i < n.length; i++) {
            n[i] = Integer.parseInt(item.get(i + 1).sign);
        }
        switch (item.get(0).sign) {
            case "pillar":
                return pillar(n[0]);
            case "weaver":
                return weaver(n[0], n[1]);
            case "tell":
                return free(n[0], 0, n[1], n[2]);
            case "look":
                return free(n[0], 1, n[1], n[2]);
            case "far":
                return far(0, n[0]) < 0 || far(1, n[1]) < 0 ? -2 : 1;
            case "like":
                return like(n[0], n[1]);
            default:
                int lips = 0;
                for (int i = 1; i < n.length; i++) {
                    lips = n[i] > 5 || lips < 0 ? -1 : lips * 6 + n[i];
                }
                return word(n.length - 1, lips, n[0]);
        }
    }

    private static List<Integer> limbs(BigInteger v) {
        List<Integer> limbs = new ArrayList<>();
        for (BigInteger rest = v; rest.signum() > 0; rest = rest.divide(BASE)) {
            limbs.add(rest.mod(BASE).intValue());
        }
        return limbs;
    }

    int sign(int what) {
        return what == 0 ? above.signum() : what == 1 ? limbs(above).size() : what == 2 ? limbs(below).size() : -2;
    }

    int limb(int which, int i) {
        if (!in(which, 0, 1) || i < 0) {
            return -2;
        }
        List<Integer> limbs = limbs(which == 0 ? above : below);
        return i < limbs.size() ? limbs.get(i) : -1;
    }

    int image(int i) {
        if (!in(i, 0, 1)) {
            return -2;
        }
        images[i] = now.copy();
        return 1;
    }

    int from(int i) {
        if (!in(i, 0, 1)) {
            return -2;
        }
        if (images[i] == null) {
            return -3;
        }
        now = images[i].copy();
        return 1;
    }

    int count(int what) {
        int[] counts = {now.pillars.size(), now.weavers.size(), now.seen.size(), now.words.size(), now.row.size(),
            text.size()};
        return in(what, 0, 5) ? counts[what] : -2;
    }

    long digest() {
        List<Long> all = new ArrayList<>();
        for (int i = 0; i < 6; i++) {
            all.add((long) count(i));
        }
        for (int p = 0; p < 64; p++) {
            all.add(now.pillars.contains(p) ? 1L : 0L);
        }
        for (Weaver w : now.weavers) {
            all.add((long) w.place);
            all.add((long) w.face);
            all.add(bits(w.tell));
            all.add(bits(w.look));
        }
        all.add((long) now.far[0]);
        all.add((long) now.far[1]);
        for (Seen s : now.seen) {
            all.add((long) s.weaver);
            all.add((long) s.second);
            all.add(s.knew ? 1L : 0L);
        }
        for (int i = 0; i < 6; i++) {
            int least = 0;
            while (!now.like[i][least]) {
                least++;
            }
            all.add((long) least);
        }
        for (Word w : now.words) {
            all.add((long) w.n);
            all.add((long) w.lips);
            all.add((long) w.weight);
        }
        for (int lip : now.row) {
            all.add((long) lip);
        }
        all.add((long) now.plain);
        all.add((long) now.girl);
        for (int i = 0; i < 6; i++) {
            all.add((long) now.level[i]);
            all.add((long) now.loss[i]);
        }
        for (int i = 0; i < 3; i++) {
            all.add((long) sign(i));
        }
        for (int v : limbs(above)) {
            all.add((long) v);
        }
        for (int v : limbs(below)) {
            all.add((long) v);
        }
        long h = 523;
        for (long v : all) {
            h = 31 * h + v;
        }
        return h;
    }

    private static long bits(boolean[] seconds) {
        long bits = 0;
        for (int t = 0; t < 12; t++) {
            bits += seconds[t] ? 1L << t : 0;
        }
        return bits;
    }
}
