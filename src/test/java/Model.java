import java.util.ArrayList;
import java.util.Arrays;
import java.util.HashMap;
import java.util.List;
import java.util.Map;
import java.util.regex.Matcher;
import java.util.regex.Pattern;

/**
 * The document once more, by trying out everything and with nothing of the class's tables:
 * what the class answers is compared with it.
 */
final class Model {
    static final int BAD = -1, FULL = -2, FINDING = -3, STATE = -4, NONE = -9;
    private static final Pattern GATE = Pattern.compile(" *(?:[gksmif][0-9][0-9] *){2,7}");
    private static final String LETTERS = "gksmif";

    /** How things stand at the gate; copied whole ahead of whatever is tried aside. */
    private static final class Scene {
        int n;
        int[] kind = new int[7];
        int[] worth = new int[7];
        boolean[][] told = new boolean[7][7];
        List<Integer> through = new ArrayList<>();
        boolean[] stone = new boolean[7];

        Scene copy() {
            Scene c = new Scene();
            c.n = n;
            c.kind = kind.clone();
            c.worth = worth.clone();
            for (int i = 0; i < 7; i++) {
                c.told[i] = told[i].clone();
            }
            c.through = new ArrayList<>(through);
            c.stone = stone.clone();
            return c;
        }

        boolean is(int i) {
            return i >= 0 && i < n;
        }

        boolean tellsOf(int i, int x) {
            return tellsOf(kind[i], i, x, told[i][x]);
        }

        static boolean tellsOf(int kind, int i, int x, boolean toldOfX) {
            if (kind == 3) {
                return false;
            }
            if (x == i) {
                return kind != 5;
            }
            return kind >= 4 && toldOfX;
        }

        boolean names(int i, int x) {
            if (x == i || told[i][x] || kind[x] == 1) {
                return true;
            }
            if (kind[x] != 2) {
                return false;
            }
            for (int y = 0; y < n; y++) {
                if (kind[y] == 2 && (y == i || told[i][y])) {
                    return true;
                }
            }
            return false;
        }

        boolean isOpenTo(int i) {
            return !through.contains(i)
                && (through.isEmpty() || names(i, through.get(through.size() - 1)));
        }

        int tell(int i, boolean[] of) {
            int more = 0;
            for (int x = 0; x < n; x++) {
                if (of[x] && x != i && !told[i][x]) {
                    told[i][x] = true;
                    more++;
                }
            }
            return more;
        }

        boolean[] telling(int i) {
            boolean[] of = new boolean[7];
            for (int x = 0; x < n; x++) {
                of[x] = tellsOf(i, x);
            }
            return of;
        }

        int meet(int i, int j) {
            boolean[] ofI = telling(i);
            boolean[] ofJ = telling(j);
            return tell(i, ofJ) + tell(j, ofI);
        }

        void card(int i) {
            boolean[] of = telling(i);
            for (int x = 0; x < n; x++) {
                stone[x] |= of[x];
            }
        }

        /** All rows that can go through from here, the empty one too, rising. */
        List<List<Integer>> rows(int comers) {
            List<List<Integer>> all = new ArrayList<>();
            extend(comers, new ArrayList<>(), all);
            return all;
        }

        private void extend(int comers, List<Integer> row, List<List<Integer>> all) {
            all.add(new ArrayList<>(row));
            for (int i = 0; i < n; i++) {
                if ((comers >> i & 1) == 1 && isOpenTo(i)) {
                    through.add(i);
                    row.add(i);
                    extend(comers, row, all);
                    row.remove(row.size() - 1);
                    through.remove(through.size() - 1);
                }
            }
        }

        boolean allCanGo() {
            if (through.size() == n) {
                return true;
            }
            for (int i = 0; i < n; i++) {
                if (isOpenTo(i)) {
                    through.add(i);
                    boolean can = allCanGo();
                    through.remove(through.size() - 1);
                    if (can) {
                        return true;
                    }
                }
            }
            return false;
        }

        boolean moverWins() {
            for (int i = 0; i < n; i++) {
                if (winsBy(i)) {
                    return true;
                }
            }
            return false;
        }

        boolean winsBy(int i) {
            if (!isOpenTo(i)) {
                return false;
            }
            through.add(i);
            boolean otherWins = moverWins();
            through.remove(through.size() - 1);
            return !otherWins;
        }

        int longest(int comers) {
            int most = 0;
            for (List<Integer> row : rows(comers)) {
                most = Math.max(most, row.size());
            }
            return most;
        }
    }

    private final int[][] rows = new int[6][];
    private final byte[][] texts = new byte[4][];
    private Scene now = new Scene();
    /** Scenes ahead of each deed; as many as deeds. */
    private List<Scene> before = new ArrayList<>();
    private final Scene[] keptNow = new Scene[3];
    private final List<List<Scene>> keptBefore =
        new ArrayList<>(Arrays.asList(null, null, null));
    private int asked = 0;
    private long upper = 0;
    private long lower = 1;
    private int finding = 0;
    private final int[] findings = new int[6];

    private int found(int f) {
        finding = f;
        findings[f]++;
        return FINDING;
    }

    int row(int r, int n) {
        if (r < 0 || r > 5 || n > 40) return BAD;
        if (n < 0) return found(5);
        rows[r] = new int[n];
        return n;
    }

    int lay(int r, int i, int v) {
        if (r < 0 || r > 5) return BAD;
        if (rows[r] == null) return found(1);
        if (i < 0 || i >= rows[r].length) return found(2);
        asked = rows[r][i];
        rows[r][i] = v;
        return 1;
    }

    int at(int r, int i) {
        if (r < 0 || r > 5) return BAD;
        if (rows[r] == null) return found(1);
        if (i < 0 || i >= rows[r].length) return found(2);
        asked = rows[r][i];
        return 1;
    }

    int tear(int r) {
        if (r < 0 || r > 5) return BAD;
        if (rows[r] == null) return found(1);
        rows[r] = null;
        return 1;
    }

    int copy(int r, int i, int to, int j, int n) {
        if (r < 0 || r > 5 || to < 0 || to > 5) return BAD;
        if (n < 0) return found(5);
        if (rows[r] == null || rows[to] == null) return found(1);
        if (i < 0 || (long) i + n > rows[r].length) return found(2);
        if (j < 0 || (long) j + n > rows[to].length) return found(2);
        int[] taken = rows[r].clone();
        for (int k = 0; k < n; k++) {
            rows[to][j + k] = taken[i + k];
        }
        return 1;
    }

    int mean(int r) {
        if (r < 0 || r > 5) return BAD;
        if (rows[r] == null) return found(1);
        if (rows[r].length == 0) return found(4);
        asked = (int) (Arrays.stream(rows[r]).asLongStream().sum() / rows[r].length);
        return 1;
    }

    int text(int t, int n) {
        if (t < 0 || t > 3 || n > 60) return BAD;
        if (n < 0) return found(5);
        texts[t] = new byte[n];
        Arrays.fill(texts[t], (byte) ' ');
        return n;
    }

    int put(int t, int i, int v) {
        if (t < 0 || t > 3) return BAD;
        if (texts[t] == null) return found(1);
        if (i < 0 || i >= texts[t].length) return found(2);
        int was = texts[t][i];
        texts[t][i] = (byte) v;
        return was + 1000;
    }

    private static String signs(byte[] text) {
        StringBuilder signs = new StringBuilder();
        for (byte b : text) {
            signs.append((char) (b & 255));
        }
        return signs.toString();
    }

    int fault(int t) {
        if (t < 0 || t > 3) return BAD;
        if (texts[t] == null) return found(1);
        String signs = signs(texts[t]);
        for (int end = 1; end <= signs.length(); end++) {
            Matcher start = GATE.matcher(signs.substring(0, end));
            if (!start.matches() && !start.hitEnd()) {
                return end - 1;
            }
        }
        return GATE.matcher(signs).matches() ? NONE : signs.length();
    }

    int gate(int t) {
        int fault = fault(t);
        if (fault == BAD || fault == FINDING) return fault;
        if (fault != NONE) return STATE;
        String items = signs(texts[t]).replace(" ", "");
        now = new Scene();
        now.n = items.length() / 3;
        for (int i = 0; i < now.n; i++) {
            now.kind[i] = LETTERS.indexOf(items.charAt(3 * i));
            now.worth[i] = items.charAt(3 * i + 1) - '0';
            int of = items.charAt(3 * i + 2) - '0';
            if (of < now.n && of != i) {
                now.told[i][of] = true;
            }
        }
        before = new ArrayList<>();
        Arrays.fill(keptNow, null);
        return now.n;
    }

    private int trait(int i, int what) {
        int bits = 0;
        for (int x = 0; x < now.n; x++) {
            boolean in = what == 2 ? now.told[i][x]
                : what == 3 ? now.tellsOf(i, x) : now.names(i, x);
            bits += in ? 1 << x : 0;
        }
        if (what == 0) return now.kind[i];
        if (what == 1) return now.worth[i];
        if (what <= 4) return bits;
        return (what == 5 ? now.through.contains(i) : now.isOpenTo(i)) ? 1 : 0;
    }

    int goer(int i, int what) {
        if (!now.is(i) || what < 0 || what > 6) return BAD;
        asked = trait(i, what);
        return 1;
    }

    int mark(int i, int kind) {
        if (!now.is(i) || kind < 1 || kind > 5) return BAD;
        boolean is = now.kind[i] == kind || (now.kind[i] == 5 && kind == 4);
        if (!is) return found(3);
        Scene asGoer = now.copy();
        asGoer.kind[i] = 0;
        int many = 0;
        for (int x = 0; x < now.n; x++) {
            boolean other = x != i;
            boolean in = kind == 1 ? other && !asGoer.names(x, i)
                : kind == 2 ? other && now.names(x, i) && !now.told[x][i]
                : kind == 3 ? other && now.names(x, i)
                : kind == 4 ? now.tellsOf(i, x)
                : now.tellsOf(i, x) && !now.through.contains(x);
            many += in ? 1 : 0;
        }
        return many;
    }

    private static int telling(int n, int kind, int i, int set) {
        int bits = 0;
        for (int x = 0; x < n; x++) {
            bits += Scene.tellsOf(kind, i, x, (set >> x & 1) == 1) ? 1 << x : 0;
        }
        return bits;
    }

    private boolean isSet(int set) {
        return set >= 0 && set < 1 << now.n;
    }

    int tells(int i, int set) {
        if (!now.is(i) || !isSet(set)) return BAD;
        return telling(now.n, now.kind[i], i, set);
    }

    private void deed() {
        before.add(now);
        now = now.copy();
    }

    private boolean full(int more) {
        return before.size() + more > 40;
    }

    int meet(int i, int j) {
        if (!now.is(i) || !now.is(j) || i == j) return BAD;
        if (now.through.contains(i) || now.through.contains(j)) return STATE;
        if (full(1)) return FULL;
        deed();
        return now.meet(i, j);
    }

    private int stoneBits() {
        int bits = 0;
        for (int x = 0; x < 7; x++) {
            bits += now.stone[x] ? 1 << x : 0;
        }
        return bits;
    }

    int card(int i) {
        if (!now.is(i)) return BAD;
        if (now.through.contains(i)) return STATE;
        if (full(1)) return FULL;
        deed();
        now.card(i);
        return stoneBits();
    }

    int reads(int i) {
        if (!now.is(i)) return BAD;
        if (now.through.contains(i)) return STATE;
        if (full(1)) return FULL;
        deed();
        return now.tell(i, now.stone);
    }

    int go(int i) {
        if (!now.is(i)) return BAD;
        if (!now.isOpenTo(i)) return STATE;
        if (full(1)) return FULL;
        deed();
        now.through.add(i);
        return now.through.size();
    }

    int undo(int n) {
        if (n < 0 || n > before.size()) return BAD;
        int undone = before.size() - n;
        if (undone > 0) {
            now = before.get(n);
            before = new ArrayList<>(before.subList(0, n));
        }
        return undone;
    }

    int keep(int k) {
        if (k < 0 || k > 2) return BAD;
        if (now.n == 0) return STATE;
        keptNow[k] = now.copy();
        keptBefore.set(k, new ArrayList<>(before));
        return before.size();
    }

    int on(int k) {
        if (k < 0 || k > 2) return BAD;
        if (keptNow[k] == null) return found(1);
        now = keptNow[k].copy();
        before = new ArrayList<>(keptBefore.get(k));
        return before.size();
    }

    private int openBits() {
        int bits = 0;
        for (int i = 0; i < now.n; i++) {
            bits += now.isOpenTo(i) ? 1 << i : 0;
        }
        return bits;
    }

    int open() {
        asked = 0;
        for (int i = 0; i < now.n; i++) {
            boolean names = now.through.isEmpty() || now.names(i, last());
            asked += names ? 1 : 0;
        }
        return openBits();
    }

    private int last() {
        return now.through.isEmpty() ? NONE : now.through.get(now.through.size() - 1);
    }

    int most(int r) {
        if (r < 0 || r > 5) return BAD;
        if (now.n == 0) return STATE;
        List<Integer> first = new ArrayList<>();
        for (List<Integer> row : now.rows(127)) {
            if (row.size() > first.size()) {
                first = row;
            }
        }
        rows[r] = first.stream().mapToInt(x -> x).toArray();
        return first.size();
    }

    int worth() {
        if (now.n == 0) return STATE;
        int dearest = 0;
        asked = 0;
        for (List<Integer> row : now.rows(127)) {
            int sum = row.stream().mapToInt(x -> now.worth[x]).sum();
            if (sum > dearest) {
                dearest = sum;
                asked = row.size();
            } else if (sum == dearest) {
                asked = Math.min(asked, row.size());
            }
        }
        return dearest;
    }

    int orders() {
        if (now.n == 0) return STATE;
        int all = now.n - now.through.size();
        return (int) now.rows(127).stream().filter(row -> row.size() == all).count();
    }

    int meetings() {
        if (now.n == 0) return STATE;
        if (now.allCanGo()) {
            asked = 0;
            return 0;
        }
        for (int howMany = 1; howMany <= 2; howMany++) {
            for (int number = 0; number < (howMany == 1 ? 100 : 10000); number++) {
                if (howMany == 1 ? comeBy(now, number) != null && comeBy(now, number).allCanGo()
                        : comeByTwo(number)) {
                    asked = number;
                    return howMany;
                }
            }
        }
        return NONE;
    }

    private boolean comeByTwo(int number) {
        Scene one = comeBy(now, number / 100);
        Scene two = one == null ? null : comeBy(one, number % 100);
        return two != null && two.allCanGo();
    }

    private static Scene comeBy(Scene scene, int pair) {
        int i = pair / 10;
        int j = pair % 10;
        if (i >= j || !scene.is(j) || scene.through.contains(i) || scene.through.contains(j)) {
            return null;
        }
        Scene then = scene.copy();
        then.meet(i, j);
        return then;
    }

    int stone() {
        if (now.n == 0) return STATE;
        int who = NONE;
        int most = -1;
        for (int i = 0; i < now.n; i++) {
            if (!now.through.contains(i)) {
                Scene then = now.copy();
                then.card(i);
                for (int j = 0; j < now.n; j++) {
                    if (j != i && !now.through.contains(j)) {
                        then.tell(j, then.stone);
                    }
                }
                int length = then.longest(127);
                if (length > most) {
                    most = length;
                    who = i;
                }
            }
        }
        asked = who == NONE ? asked : most;
        return who;
    }

    int hold() {
        if (now.n == 0) return STATE;
        int who = NONE;
        int fewest = 8;
        for (int i = 0; i < now.n; i++) {
            if (!now.through.contains(i) && now.longest(127 - (1 << i)) < fewest) {
                fewest = now.longest(127 - (1 << i));
                who = i;
            }
        }
        asked = who == NONE ? asked : fewest;
        return who;
    }

    int last(int set) {
        if (!isSet(set)) return BAD;
        if (now.n == 0) return STATE;
        int who = 0;
        for (int x = 0; x < now.n; x++) {
            Scene then = now.copy();
            then.through.remove((Integer) x);
            then.through.add(x);
            int to = 0;
            for (int i = 0; i < now.n; i++) {
                to += then.isOpenTo(i) ? 1 << i : 0;
            }
            who += to == set ? 1 << x : 0;
        }
        return who;
    }

    private int pairsRefused(int i, int r) {
        if (!now.is(i) || r < 0 || r > 5) return BAD;
        if (rows[r] == null) return found(1);
        if (rows[r].length % 2 == 1) return found(5);
        for (int set : rows[r]) {
            if (!isSet(set)) return found(3);
        }
        return 0;
    }

    private int kindBits(int i, int r) {
        int bits = 0;
        for (int kind = 0; kind < 6; kind++) {
            boolean fits = true;
            for (int k = 0; k < rows[r].length; k += 2) {
                fits &= telling(now.n, kind, i, rows[r][k]) == rows[r][k + 1];
            }
            bits += fits ? 1 << kind : 0;
        }
        return bits;
    }

    int kinds(int i, int r) {
        int refused = pairsRefused(i, r);
        return refused != 0 ? refused : kindBits(i, r);
    }

    int test(int i, int r) {
        int refused = pairsRefused(i, r);
        if (refused != 0) return refused;
        int bits = kindBits(i, r);
        if (bits == 0) return NONE;
        int best = 0;
        int least = 7;
        for (int set = 0; set < 1 << now.n; set++) {
            Map<Integer, Integer> parts = new HashMap<>();
            for (int kind = 0; kind < 6; kind++) {
                if ((bits >> kind & 1) == 1) {
                    parts.merge(telling(now.n, kind, i, set), 1, Integer::sum);
                }
            }
            int greatest = parts.values().stream().mapToInt(x -> x).max().getAsInt();
            if (greatest < least) {
                least = greatest;
                best = set;
            }
        }
        asked = least;
        return best;
    }

    int duel() {
        if (now.n == 0) return STATE;
        for (int i = 0; i < now.n; i++) {
            if (now.winsBy(i)) {
                asked = i;
                return 1;
            }
        }
        asked = NONE;
        return 0;
    }

    /** The mean, over who comes, of the most that go, or of whether all do. */
    private int chance(int p, boolean all) {
        if (p < 0 || p > 12) return BAD;
        if (now.n == 0) return STATE;
        long sum = 0;
        long whole = 0;
        for (int comers = 0; comers < 1 << now.n; comers++) {
            long weight = 1;
            for (int i = 0; i < now.n; i++) {
                boolean comes = (comers >> i & 1) == 1;
                if (now.through.contains(i)) {
                    weight *= comes ? 0 : 1;
                } else {
                    weight *= comes ? 12 - p : p;
                }
            }
            int most = weight == 0 ? 0 : now.longest(comers);
            int value = all ? (most == Integer.bitCount(comers) ? 1 : 0) : most;
            sum += weight * value;
            whole += weight;
        }
        java.math.BigInteger shared =
            java.math.BigInteger.valueOf(sum).gcd(java.math.BigInteger.valueOf(whole));
        upper = sum / shared.longValue();
        lower = whole / shared.longValue();
        return 1;
    }

    int odds(int p) {
        return chance(p, true);
    }

    int mid(int p) {
        return chance(p, false);
    }

    int lots(int n, int seed) {
        if (n < 1 || n > 20 || seed < 1 || seed == Integer.MAX_VALUE) return BAD;
        if (now.n == 0) return STATE;
        if (full(n)) return FULL;
        long lot = seed;
        for (int k = 0; k < n; k++) {
            lot = lot * 48271 % 2147483647;
            int i = (int) (lot / 8 % now.n);
            int j = (int) (lot / 64 % now.n);
            int deeds = before.size();
            int what = (int) (lot % 4);
            int answer = what == 0 ? meet(i, j) : what == 1 ? card(i) : what == 2 ? reads(i) : go(i);
            if (answer < 0 || before.size() == deeds) {
                deed();
            }
        }
        return now.through.size();
    }

    int asked() {
        return asked;
    }

    long upper() {
        return upper;
    }

    long lower() {
        return lower;
    }

    int count(int what) {
        switch (what) {
            case 0: return now.n;
            case 1: return now.through.size();
            case 2: return before.size();
            case 3: return last();
            case 4: return now.through.stream().mapToInt(x -> 1 << x).sum();
            case 5: return stoneBits();
            case 6: return Integer.bitCount(openBits());
            case 7: return there(rows);
            case 8: return there(texts);
            case 9: return there(keptNow);
            case 10: return kindCount(4) + kindCount(5);
            case 11: return kindCount(1);
            default: return BAD;
        }
    }

    private static int there(Object[] things) {
        return (int) Arrays.stream(things).filter(x -> x != null).count();
    }

    private int kindCount(int kind) {
        int many = 0;
        for (int i = 0; i < now.n; i++) {
            many += now.kind[i] == kind ? 1 : 0;
        }
        return many;
    }

    int finding() {
        return finding;
    }

    int findings(int f) {
        return f < 1 || f > 5 ? BAD : findings[f];
    }

    long digest() {
        List<Integer> all = new ArrayList<>();
        for (int what = 0; what < 12; what++) {
            all.add(count(what));
        }
        for (int i = 0; i < now.n; i++) {
            for (int what = 0; what < 7; what++) {
                all.add(trait(i, what));
            }
        }
        for (int k = 0; k < 3; k++) {
            all.add(keptNow[k] == null ? -1 : keptBefore.get(k).size());
        }
        for (int[] row : rows) {
            all.add(row == null ? -1 : row.length);
            for (int k = 0; row != null && k < row.length; k++) {
                all.add(row[k]);
            }
        }
        for (byte[] text : texts) {
            all.add(text == null ? -1 : text.length);
            for (int k = 0; text != null && k < text.length; k++) {
                all.add((int) text[k]);
            }
        }
        long h = 17;
        for (int v : all) {
            h = 31 * h + v;
        }
        return h;
    }
}
