import java.util.Arrays;

/** Goers at a gate that opens to whoever can name the last one to go through. */
public final class GateNames {
    public static final int BAD = -1, FULL = -2, FINDING = -3, STATE = -4, SPENT = -6, NONE = -9;

    private static final int NOTHING = 1, BEYOND = 2, UNLIKE = 3, NOUGHT = 4, SIZE = 5;
    private static final int GOER = 0, KING = 1, SMITH = 2, MUTE = 3, SINGER = 4, FALSE = 5;
    private static final int KINDS = 6;
    private static final int[] LETTERS = {103, 107, 115, 109, 105, 102};

    private static final int ROWS = 6, LONGEST_ROW = 40, TEXTS = 4, LONGEST_TEXT = 60;
    private static final int PLACES = 3, FEWEST_GOERS = 2, MOST_GOERS = 7, SETS = 1 << MOST_GOERS;
    private static final int MOST_DEEDS = 40, MOST_LOTS = 20, PARTS = 12;
    private static final int BLANK = 32, FIGURE_0 = 48, FIGURE_9 = 57;
    private static final int TRAITS = 7, COUNTS = 12;
    private static final int IDLE = 0, MEETING = 1, CARD = 2, READING = 3, PASSAGE = 4;
    private static final long LOT_FACTOR = 48271L, LOT_MODULUS = 2147483647L;

    private final Shelf rows = new Shelf(ROWS, LONGEST_ROW);
    private final Shelf texts = new Shelf(TEXTS, LONGEST_TEXT);
    private final Gate gate = new Gate();
    private final Road road = new Road();
    private final int[][] keptDeeds = new int[PLACES][MOST_DEEDS];
    private final int[] keptSizes = new int[PLACES];
    private final int[] firstTrial = new int[MOST_GOERS];
    private final int[] secondTrial = new int[MOST_GOERS];
    private final int[] findingCounts = new int[SIZE + 1];
    private int latestFinding = 0;
    private int answer = 0;
    private long upperNumber = 0L;
    private long lowerNumber = 1L;

    public GateNames() {
        Arrays.fill(keptSizes, -1);
    }

    // ---- 1 rows, texts, gates

    public int row(int r, int n) {
        return make(rows, r, n, 0);
    }

    public int lay(int r, int i, int v) {
        int refusal = refusalOfPlace(rows, r, i);
        if (refusal != 0) {
            return refusal;
        }
        int before = rows.strips[r][i];
        rows.strips[r][i] = v;
        return toldByAsked(before);
    }

    public int at(int r, int i) {
        int refusal = refusalOfPlace(rows, r, i);
        return refusal != 0 ? refusal : toldByAsked(rows.strips[r][i]);
    }

    public int tear(int r) {
        int refusal = refusalOfStrip(rows, r);
        if (refusal != 0) {
            return refusal;
        }
        rows.sizes[r] = -1;
        return 1;
    }

    public int copy(int r, int i, int to, int j, int n) {
        if (!rows.numbers(r) || !rows.numbers(to)) {
            return BAD;
        }
        if (n < 0) {
            return found(SIZE);
        }
        if (rows.missing(r) || rows.missing(to)) {
            return found(NOTHING);
        }
        if (!rows.reaches(r, i, n) || !rows.reaches(to, j, n)) {
            return found(BEYOND);
        }
        System.arraycopy(rows.strips[r], i, rows.strips[to], j, n);
        return 1;
    }

    public int mean(int r) {
        int refusal = refusalOfStrip(rows, r);
        if (refusal != 0) {
            return refusal;
        }
        int size = rows.sizes[r];
        if (size <= 0) {
            return found(NOUGHT);
        }
        return toldByAsked((int) (rows.total(r) / size));
    }

    public int text(int t, int n) {
        return make(texts, t, n, BLANK);
    }

    public int put(int t, int i, int v) {
        int refusal = refusalOfPlace(texts, t, i);
        if (refusal != 0) {
            return refusal;
        }
        int before = texts.strips[t][i];
        texts.strips[t][i] = (byte) v;
        return before + 1000;
    }

    public int fault(int t) {
        int refusal = refusalOfStrip(texts, t);
        return refusal != 0 ? refusal : faultIn(texts.strips[t], texts.sizes[t]);
    }

    public int gate(int t) {
        int refusal = refusalOfStrip(texts, t);
        if (refusal != 0) {
            return refusal;
        }
        if (faultIn(texts.strips[t], texts.sizes[t]) != NONE) {
            return STATE;
        }
        gate.gather(texts.strips[t], texts.sizes[t]);
        Arrays.fill(keptSizes, -1);
        return gate.goers;
    }

    public int goer(int i, int what) {
        if (!gate.numbers(i) || what < 0 || what >= TRAITS) {
            return BAD;
        }
        return toldByAsked(traitOf(i, what));
    }

    public int mark(int i, int kind) {
        if (!gate.numbers(i) || kind <= GOER || kind >= KINDS) {
            return BAD;
        }
        int own = gate.kindOf[i];
        if (own != kind && !(own == FALSE && kind == SINGER)) {
            return found(UNLIKE);
        }
        switch (kind) {
            case KING:
                return gate.goers - 1 - Integer.bitCount(gate.toldOf(i));
            case SMITH:
                return Integer.bitCount(gate.namersOf(i) & ~gate.toldOf(i) & ~(1 << i));
            case MUTE:
                return Integer.bitCount(gate.namersOf(i) & ~(1 << i));
            case SINGER:
                return Integer.bitCount(gate.tellingOf(i));
            default:
                return Integer.bitCount(gate.tellingOf(i) & gate.left());
        }
    }

    public int tells(int i, int set) {
        if (!gate.numbers(i) || !gate.holds(set)) {
            return BAD;
        }
        return tellingAs(gate.kindOf[i], i, set);
    }

    // ---- 2 deeds

    public int meet(int i, int j) {
        if (!gate.numbers(i) || !gate.numbers(j) || i == j) {
            return BAD;
        }
        if (!gate.canMeet(i, j)) {
            return STATE;
        }
        if (gate.spare() < 1) {
            return FULL;
        }
        int before = gate.tellings();
        gate.add(MEETING, i, j);
        return gate.tellings() - before;
    }

    public int card(int i) {
        int refusal = refusalAtStone(i);
        if (refusal != 0) {
            return refusal;
        }
        gate.add(CARD, i, 0);
        return gate.onStone;
    }

    public int reads(int i) {
        int refusal = refusalAtStone(i);
        if (refusal != 0) {
            return refusal;
        }
        int before = gate.tellings();
        gate.add(READING, i, 0);
        return gate.tellings() - before;
    }

    public int go(int i) {
        if (!gate.numbers(i)) {
            return BAD;
        }
        if (!gate.opensTo(i)) {
            return STATE;
        }
        if (gate.spare() < 1) {
            return FULL;
        }
        gate.add(PASSAGE, i, 0);
        return Integer.bitCount(gate.gone);
    }

    public int undo(int n) {
        if (n < 0 || n > gate.deedCount) {
            return BAD;
        }
        int undone = gate.deedCount - n;
        gate.doAgain(gate.deeds, n);
        return undone;
    }

    public int keep(int k) {
        if (k < 0 || k >= PLACES) {
            return BAD;
        }
        if (gate.goers == 0) {
            return STATE;
        }
        System.arraycopy(gate.deeds, 0, keptDeeds[k], 0, gate.deedCount);
        keptSizes[k] = gate.deedCount;
        return gate.deedCount;
    }

    public int on(int k) {
        if (k < 0 || k >= PLACES) {
            return BAD;
        }
        if (keptSizes[k] < 0) {
            return found(NOTHING);
        }
        gate.doAgain(keptDeeds[k], keptSizes[k]);
        return gate.deedCount;
    }

    // ---- 3 who comes through

    public int open() {
        int all = (1 << gate.goers) - 1;
        answer = Integer.bitCount(gate.lastGone == NONE ? all : gate.namersOf(gate.lastGone));
        return gate.opened();
    }

    public int most(int r) {
        if (!rows.numbers(r)) {
            return BAD;
        }
        if (gate.goers == 0) {
            return STATE;
        }
        road.survey(gate, gate.told);
        road.rank();
        int length = road.best[road.left];
        rows.spread(r, length, 0);
        road.writeFirstRow(rows.strips[r], length);
        return length;
    }

    public int worth() {
        if (gate.goers == 0) {
            return STATE;
        }
        road.survey(gate, gate.told);
        int dearest = 0;
        int shortest = 0;
        for (int set = 1; set <= road.left; set++) {
            if (road.comesThrough(set)) {
                int sum = gate.worthOf(set);
                int size = Integer.bitCount(set);
                if (sum > dearest || (sum == dearest && size < shortest)) {
                    dearest = sum;
                    shortest = size;
                }
            }
        }
        answer = shortest;
        return dearest;
    }

    public int orders() {
        if (gate.goers == 0) {
            return STATE;
        }
        road.survey(gate, gate.told);
        return road.ordersOfAll();
    }

    // ---- 4 what to do

    public int meetings() {
        if (gate.goers == 0) {
            return STATE;
        }
        if (allCome(gate.told)) {
            answer = 0;
            return 0;
        }
        int pair = firstMeeting(gate.told, firstTrial);
        if (pair != NONE) {
            answer = pair;
            return 1;
        }
        int pairs = firstTwoMeetings();
        if (pairs == NONE) {
            return NONE;
        }
        answer = pairs;
        return 2;
    }

    public int stone() {
        if (gate.goers == 0) {
            return STATE;
        }
        int friendliest = NONE;
        int through = -1;
        for (int i = 0; i < gate.goers; i++) {
            if (gate.waits(i)) {
                int length = mostByCardOf(i);
                if (length > through) {
                    friendliest = i;
                    through = length;
                }
            }
        }
        return friendliest == NONE ? NONE : toldAside(friendliest, through);
    }

    public int hold() {
        if (gate.goers == 0) {
            return STATE;
        }
        road.survey(gate, gate.told);
        road.rank();
        int held = NONE;
        int through = MOST_GOERS + 1;
        for (int i = 0; i < gate.goers; i++) {
            if (gate.waits(i)) {
                int length = road.best[road.left & ~(1 << i)];
                if (length < through) {
                    held = i;
                    through = length;
                }
            }
        }
        return held == NONE ? NONE : toldAside(held, through);
    }

    // ---- 5 who it was

    public int last(int set) {
        if (!gate.holds(set)) {
            return BAD;
        }
        if (gate.goers == 0) {
            return STATE;
        }
        int suspects = 0;
        for (int i = 0; i < gate.goers; i++) {
            if ((gate.namersOf(i) & gate.left() & ~(1 << i)) == set) {
                suspects |= 1 << i;
            }
        }
        return suspects;
    }

    public int kinds(int i, int r) {
        int refusal = refusalOfPairs(i, r);
        return refusal != 0 ? refusal : kindsByPairs(i, r);
    }

    public int test(int i, int r) {
        int refusal = refusalOfPairs(i, r);
        if (refusal != 0) {
            return refusal;
        }
        int possible = kindsByPairs(i, r);
        if (possible == 0) {
            return NONE;
        }
        int question = 0;
        int least = KINDS + 1;
        for (int set = 0; set < (1 << gate.goers); set++) {
            int part = greatestPart(possible, i, set);
            if (part < least) {
                question = set;
                least = part;
            }
        }
        return toldAside(question, least);
    }

    // ---- 6 by turns

    public int duel() {
        if (gate.goers == 0) {
            return STATE;
        }
        road.survey(gate, gate.told);
        answer = road.winningGoer();
        return answer == NONE ? 0 : 1;
    }

    // ---- 7 chances, lots

    public int odds(int p) {
        if (p < 0 || p > PARTS) {
            return BAD;
        }
        if (gate.goers == 0) {
            return STATE;
        }
        road.survey(gate, gate.told);
        long sum = 0L;
        for (int set = 0; set <= road.left; set++) {
            if (road.comesThrough(set)) {
                sum += weightOf(set, p);
            }
        }
        return toldInParts(sum);
    }

    public int mid(int p) {
        if (p < 0 || p > PARTS) {
            return BAD;
        }
        if (gate.goers == 0) {
            return STATE;
        }
        road.survey(gate, gate.told);
        road.rank();
        long sum = 0L;
        for (int set = 0; set <= road.left; set++) {
            if (road.within(set)) {
                sum += weightOf(set, p) * road.best[set];
            }
        }
        return toldInParts(sum);
    }

    public int lots(int n, int seed) {
        if (n < 1 || n > MOST_LOTS || seed < 1 || seed >= LOT_MODULUS) {
            return BAD;
        }
        if (gate.goers == 0) {
            return STATE;
        }
        if (gate.spare() < n) {
            return FULL;
        }
        long lot = seed;
        for (int drawn = 0; drawn < n; drawn++) {
            lot = lot * LOT_FACTOR % LOT_MODULUS;
            doByLot((int) lot);
        }
        return Integer.bitCount(gate.gone);
    }

    // ---- 8 what is told

    public int asked() {
        return answer;
    }

    public long upper() {
        return upperNumber;
    }

    public long lower() {
        return lowerNumber;
    }

    public int count(int what) {
        return what < 0 || what >= COUNTS ? BAD : countOf(what);
    }

    public int finding() {
        return latestFinding;
    }

    public int findings(int f) {
        return f < NOTHING || f > SIZE ? BAD : findingCounts[f];
    }

    public long digest() {
        long hash = 17L;
        for (int what = 0; what < COUNTS; what++) {
            hash = 31L * hash + countOf(what);
        }
        for (int i = 0; i < gate.goers; i++) {
            for (int what = 0; what < TRAITS; what++) {
                hash = 31L * hash + traitOf(i, what);
            }
        }
        for (int k = 0; k < PLACES; k++) {
            hash = 31L * hash + keptSizes[k];
        }
        return texts.digestFrom(rows.digestFrom(hash));
    }

    // ---- what calls share: how they refuse, how they tell

    private int found(int which) {
        latestFinding = which;
        findingCounts[which]++;
        return FINDING;
    }

    private int toldByAsked(int value) {
        answer = value;
        return 1;
    }

    private int toldAside(int result, int value) {
        answer = value;
        return result;
    }

    private int toldInParts(long sum) {
        long whole = power(PARTS, Integer.bitCount(road.left));
        long shared = commonDivisor(sum, whole);
        if (shared > 0L) {
            upperNumber = sum / shared;
            lowerNumber = whole / shared;
        }
        return 1;
    }

    private int make(Shelf shelf, int s, int n, int filler) {
        if (!shelf.numbers(s) || n > shelf.longest) {
            return BAD;
        }
        if (n < 0) {
            return found(SIZE);
        }
        shelf.spread(s, n, filler);
        return n;
    }

    private int refusalOfStrip(Shelf shelf, int s) {
        if (!shelf.numbers(s)) {
            return BAD;
        }
        return shelf.missing(s) ? found(NOTHING) : 0;
    }

    private int refusalOfPlace(Shelf shelf, int s, int i) {
        int refusal = refusalOfStrip(shelf, s);
        if (refusal != 0) {
            return refusal;
        }
        return shelf.reaches(s, i, 1) ? 0 : found(BEYOND);
    }

    private int refusalAtStone(int i) {
        if (!gate.numbers(i)) {
            return BAD;
        }
        if (!gate.waits(i)) {
            return STATE;
        }
        return gate.spare() < 1 ? FULL : 0;
    }

    private int refusalOfPairs(int i, int r) {
        if (!gate.numbers(i)) {
            return BAD;
        }
        int refusal = refusalOfStrip(rows, r);
        if (refusal != 0) {
            return refusal;
        }
        if (rows.sizes[r] % 2 != 0) {
            return found(SIZE);
        }
        for (int place = 0; place < rows.sizes[r]; place++) {
            if (!gate.holds(rows.strips[r][place])) {
                return found(UNLIKE);
            }
        }
        return 0;
    }

    private int traitOf(int i, int what) {
        switch (what) {
            case 0:
                return gate.kindOf[i];
            case 1:
                return gate.worths[i];
            case 2:
                return gate.told[i];
            case 3:
                return gate.tellingOf(i);
            case 4:
                return gate.naming(i, gate.told);
            case 5:
                return gate.waits(i) ? 0 : 1;
            default:
                return gate.opensTo(i) ? 1 : 0;
        }
    }

    private int countOf(int what) {
        switch (what) {
            case 0:
                return gate.goers;
            case 1:
                return Integer.bitCount(gate.gone);
            case 2:
                return gate.deedCount;
            case 3:
                return gate.lastGone;
            case 4:
                return gate.gone;
            case 5:
                return gate.onStone;
            case 6:
                return Integer.bitCount(gate.opened());
            case 7:
                return rows.present();
            case 8:
                return texts.present();
            case 9:
                return keptGates();
            case 10:
                return Integer.bitCount(gate.ofKind[SINGER] | gate.ofKind[FALSE]);
            default:
                return Integer.bitCount(gate.ofKind[KING]);
        }
    }

    private int keptGates() {
        int kept = 0;
        for (int k = 0; k < PLACES; k++) {
            if (keptSizes[k] >= 0) {
                kept++;
            }
        }
        return kept;
    }

    // ---- what calls share: meetings, cards, kinds, lots, chances

    private boolean allCome(int[] told) {
        road.look(gate, told);
        if (!road.mayAllCome()) {
            return false;
        }
        road.chain();
        return road.comesThrough(road.left);
    }

    /** The first meeting by which all can come, were they told as before. */
    private int firstMeeting(int[] before, int[] trial) {
        for (int i = 0; i < gate.goers; i++) {
            for (int j = i + 1; j < gate.goers; j++) {
                if (gate.canMeet(i, j)) {
                    gate.meetAside(i, j, before, trial);
                    if (allCome(trial)) {
                        return 10 * i + j;
                    }
                }
            }
        }
        return NONE;
    }

    private int firstTwoMeetings() {
        for (int i = 0; i < gate.goers; i++) {
            for (int j = i + 1; j < gate.goers; j++) {
                if (gate.canMeet(i, j)) {
                    gate.meetAside(i, j, gate.told, firstTrial);
                    int second = firstMeeting(firstTrial, secondTrial);
                    if (second != NONE) {
                        return 100 * (10 * i + j) + second;
                    }
                }
            }
        }
        return NONE;
    }

    private int mostByCardOf(int i) {
        int card = gate.onStone | gate.tellingOf(i);
        for (int j = 0; j < gate.goers; j++) {
            boolean reader = j != i && gate.waits(j);
            firstTrial[j] = reader ? gate.told[j] | (card & ~(1 << j)) : gate.told[j];
        }
        road.survey(gate, firstTrial);
        road.rank();
        return road.best[road.left];
    }

    private int kindsByPairs(int i, int r) {
        int possible = 0;
        for (int kind = 0; kind < KINDS; kind++) {
            if (fitsPairs(kind, i, r)) {
                possible |= 1 << kind;
            }
        }
        return possible;
    }

    private boolean fitsPairs(int kind, int i, int r) {
        int[] pairs = rows.strips[r];
        for (int place = 0; place + 1 < rows.sizes[r]; place += 2) {
            if (tellingAs(kind, i, pairs[place]) != pairs[place + 1]) {
                return false;
            }
        }
        return true;
    }

    private void doByLot(int lot) {
        int i = lot / 8 % gate.goers;
        int j = lot / 64 % gate.goers;
        switch (lot % 4) {
            case 0:
                gate.add(gate.canMeet(i, j) ? MEETING : IDLE, i, j);
                break;
            case 1:
                gate.add(gate.waits(i) ? CARD : IDLE, i, j);
                break;
            case 2:
                gate.add(gate.waits(i) ? READING : IDLE, i, j);
                break;
            default:
                gate.add(gate.opensTo(i) ? PASSAGE : IDLE, i, j);
                break;
        }
    }

    private long weightOf(int set, int p) {
        int come = Integer.bitCount(set);
        int away = Integer.bitCount(road.left) - come;
        return power(PARTS - p, come) * power(p, away);
    }

    private static int greatestPart(int possible, int i, int set) {
        int greatest = 0;
        for (int kind = 0; kind < KINDS; kind++) {
            int alike = 0;
            for (int other = 0; other < KINDS; other++) {
                boolean bothPossible = isIn(possible, kind) && isIn(possible, other);
                if (bothPossible && tellingAs(kind, i, set) == tellingAs(other, i, set)) {
                    alike++;
                }
            }
            greatest = Math.max(greatest, alike);
        }
        return greatest;
    }

    /** Of whom goer i would tell, were it of a kind and told of a set. */
    private static int tellingAs(int kind, int i, int set) {
        int self = 1 << i;
        switch (kind) {
            case MUTE:
                return 0;
            case SINGER:
                return set | self;
            case FALSE:
                return set & ~self;
            default:
                return self;
        }
    }

    private static boolean isIn(int set, int i) {
        return ((set >> i) & 1) != 0;
    }

    private static long power(int base, int exponent) {
        long product = 1L;
        for (int k = 0; k < exponent; k++) {
            product *= base;
        }
        return product;
    }

    private static long commonDivisor(long a, long b) {
        long greater = a;
        long lesser = b;
        // two longs need fewer than a hundred steps
        for (int step = 0; step < 100 && lesser != 0L; step++) {
            long rest = greater % lesser;
            greater = lesser;
            lesser = rest;
        }
        return greater;
    }

    // ---- the small language

    private static int faultIn(int[] text, int size) {
        int goers = 0;
        int place = 0;
        while (place < size) {
            if (text[place] == BLANK) {
                place++;
            } else if (goers == MOST_GOERS) {
                return place;
            } else {
                int good = goodSigns(text, size, place);
                if (good < 3) {
                    return place + good;
                }
                goers++;
                place += 3;
            }
        }
        return goers < FEWEST_GOERS ? size : NONE;
    }

    /** How many of the three signs of a goer's item stand at a place, one behind the other. */
    private static int goodSigns(int[] text, int size, int place) {
        if (place >= size || kindOfLetter(text[place]) == NONE) {
            return 0;
        }
        if (place + 1 >= size || !isFigure(text[place + 1])) {
            return 1;
        }
        return place + 2 >= size || !isFigure(text[place + 2]) ? 2 : 3;
    }

    private static int kindOfLetter(int sign) {
        for (int kind = 0; kind < KINDS; kind++) {
            if (LETTERS[kind] == sign) {
                return kind;
            }
        }
        return NONE;
    }

    private static boolean isFigure(int sign) {
        return sign >= FIGURE_0 && sign <= FIGURE_9;
    }

    /** Numbered strips of ints, each with its size, or missing (size -1). */
    private static final class Shelf {
        private final int[][] strips;
        private final int[] sizes;
        private final int longest;

        private Shelf(int howMany, int longest) {
            this.strips = new int[howMany][longest];
            this.sizes = new int[howMany];
            this.longest = longest;
            Arrays.fill(sizes, -1);
        }

        private boolean numbers(int s) {
            return s >= 0 && s < sizes.length;
        }

        private boolean missing(int s) {
            return sizes[s] < 0;
        }

        /** Whether n places are there from place i on; written so that no sum can overflow. */
        private boolean reaches(int s, int i, int n) {
            return i >= 0 && i <= sizes[s] && n <= sizes[s] - i;
        }

        private void spread(int s, int n, int filler) {
            Arrays.fill(strips[s], filler);
            sizes[s] = n;
        }

        private long total(int s) {
            long sum = 0L;
            for (int i = 0; i < sizes[s]; i++) {
                sum += strips[s][i];
            }
            return sum;
        }

        private int present() {
            int there = 0;
            for (int s = 0; s < sizes.length; s++) {
                if (sizes[s] >= 0) {
                    there++;
                }
            }
            return there;
        }

        private long digestFrom(long start) {
            long hash = start;
            for (int s = 0; s < sizes.length; s++) {
                hash = 31L * hash + sizes[s];
                for (int i = 0; i < sizes[s]; i++) {
                    hash = 31L * hash + strips[s][i];
                }
            }
            return hash;
        }
    }

    /** The goers, what they know, and the deeds that brought them there. */
    private static final class Gate {
        private final int[] kindOf = new int[MOST_GOERS];
        private final int[] worths = new int[MOST_GOERS];
        private final int[] toldAtFirst = new int[MOST_GOERS];
        private final int[] told = new int[MOST_GOERS];
        private final int[] ofKind = new int[KINDS];
        private final int[] deeds = new int[MOST_DEEDS];
        private int goers = 0;
        private int deedCount = 0;
        private int gone = 0;
        private int lastGone = NONE;
        private int onStone = 0;

        private boolean numbers(int i) {
            return i >= 0 && i < goers;
        }

        private boolean holds(int set) {
            return set >= 0 && set < (1 << goers);
        }

        private int left() {
            return ((1 << goers) - 1) & ~gone;
        }

        private boolean waits(int i) {
            return !isIn(gone, i);
        }

        private boolean canMeet(int i, int j) {
            return i != j && waits(i) && waits(j);
        }

        private int spare() {
            return MOST_DEEDS - deedCount;
        }

        /** The text must be without a fault. */
        private void gather(int[] text, int size) {
            goers = 0;
            Arrays.fill(ofKind, 0);
            int place = 0;
            while (place + 2 < size && goers < MOST_GOERS) {
                int kind = kindOfLetter(text[place]);
                if (kind == NONE) {
                    place++;
                } else {
                    kindOf[goers] = kind;
                    worths[goers] = text[place + 1] - FIGURE_0;
                    toldAtFirst[goers] = 1 << (text[place + 2] - FIGURE_0);
                    ofKind[kind] |= 1 << goers;
                    goers++;
                    place += 3;
                }
            }
            // only now is it known which figures mean a goer
            for (int i = 0; i < goers; i++) {
                toldAtFirst[i] &= ((1 << goers) - 1) & ~(1 << i);
            }
            deedCount = 0;
            startAnew();
        }

        private void startAnew() {
            System.arraycopy(toldAtFirst, 0, told, 0, MOST_GOERS);
            gone = 0;
            lastGone = NONE;
            onStone = 0;
        }

        /** The first deeds of a list, from the start; the list may be this gate's own. */
        private void doAgain(int[] list, int howMany) {
            startAnew();
            deedCount = 0;
            for (int k = 0; k < howMany && k < list.length; k++) {
                int deed = list[k];
                add(deed / 100, deed / 10 % 10, deed % 10);
            }
        }

        /** A deed that can be done; an idle one changes nothing but how many there are. */
        private void add(int what, int i, int j) {
            if (deedCount >= MOST_DEEDS || !numbers(i) || !numbers(j)) {
                return;
            }
            deeds[deedCount] = 100 * what + 10 * i + j;
            deedCount++;
            switch (what) {
                case MEETING:
                    meetAside(i, j, told, told);
                    break;
                case CARD:
                    onStone |= tellingOf(i);
                    break;
                case READING:
                    told[i] |= onStone & ~(1 << i);
                    break;
                case PASSAGE:
                    gone |= 1 << i;
                    lastGone = i;
                    break;
                default:
                    break;
            }
        }

        /** What all were told of when two have met, by what they were told ahead of it. */
        private void meetAside(int i, int j, int[] before, int[] then) {
            int ofI = tellingAs(kindOf[i], i, before[i]);
            int ofJ = tellingAs(kindOf[j], j, before[j]);
            System.arraycopy(before, 0, then, 0, MOST_GOERS);
            then[i] |= ofJ & ~(1 << i);
            then[j] |= ofI & ~(1 << j);
        }

        private int tellings() {
            int sum = 0;
            for (int i = 0; i < goers; i++) {
                sum += Integer.bitCount(told[i]);
            }
            return sum;
        }

        private int tellingOf(int i) {
            return tellingAs(kindOf[i], i, told[i]);
        }

        /** Whom goer i can name, were all told as in a list. */
        private int naming(int i, int[] toldThen) {
            int named = toldThen[i] | (1 << i) | ofKind[KING];
            return (named & ofKind[SMITH]) != 0 ? named | ofKind[SMITH] : named;
        }

        private int namersOf(int i) {
            int namers = 0;
            for (int j = 0; j < goers; j++) {
                if (isIn(naming(j, told), i)) {
                    namers |= 1 << j;
                }
            }
            return namers;
        }

        private int toldOf(int i) {
            int knowing = 0;
            for (int j = 0; j < goers; j++) {
                if (isIn(told[j], i)) {
                    knowing |= 1 << j;
                }
            }
            return knowing;
        }

        private boolean opensTo(int i) {
            return waits(i) && (lastGone == NONE || isIn(naming(i, told), lastGone));
        }

        private int opened() {
            int set = 0;
            for (int i = 0; i < goers; i++) {
                if (opensTo(i)) {
                    set |= 1 << i;
                }
            }
            return set;
        }

        private int worthOf(int set) {
            int sum = 0;
            for (int i = 0; i < goers; i++) {
                if (isIn(set, i)) {
                    sum += worths[i];
                }
            }
            return sum;
        }
    }

    /** Rows in which goers can go through, looked at aside: tables by sets of those left. */
    private static final class Road {
        private final int[] after = new int[MOST_GOERS];
        private final int[] starters = new int[SETS];
        private final int[] best = new int[SETS];
        private final int[] winners = new int[SETS];
        private final int[] ways = new int[SETS * MOST_GOERS];
        private int goers = 0;
        private int left = 0;
        private int opened = 0;

        private void survey(Gate gate, int[] told) {
            look(gate, told);
            chain();
        }

        /** Who can go right after whom, were all told as in a list. */
        private void look(Gate gate, int[] told) {
            goers = gate.goers;
            left = gate.left();
            Arrays.fill(after, 0);
            for (int j = 0; j < goers; j++) {
                int named = gate.naming(j, told);
                for (int i = 0; i < goers; i++) {
                    if (isIn(named, i)) {
                        after[i] |= 1 << j;
                    }
                }
            }
            boolean someoneWent = gate.lastGone >= 0 && gate.lastGone < goers;
            opened = someoneWent ? after[gate.lastGone] & left : left;
        }

        private boolean within(int set) {
            return (set & ~left) == 0;
        }

        /** False if surely not all can come through: far cheaper to tell than by chain(). */
        private boolean mayAllCome() {
            int behindAnother = 0;
            for (int i = 0; i < goers; i++) {
                if (isIn(left, i)) {
                    behindAnother |= after[i] & ~(1 << i);
                }
            }
            int mustBeFirst = left & ~behindAnother;
            return (mustBeFirst & ~opened) == 0 && Integer.bitCount(mustBeFirst) <= 1;
        }

        /** For each set: who can be the first of a row of all of it. */
        private void chain() {
            for (int set = 1; set <= left; set++) {
                if (within(set)) {
                    starters[set] = startersOf(set);
                }
            }
        }

        private int startersOf(int set) {
            int firsts = 0;
            for (int i = 0; i < goers; i++) {
                if (isIn(set, i)) {
                    int rest = set & ~(1 << i);
                    if (rest == 0 || (starters[rest] & after[i]) != 0) {
                        firsts |= 1 << i;
                    }
                }
            }
            return firsts;
        }

        /** Whether just these, all of them left, can go through in some order from now. */
        private boolean comesThrough(int set) {
            return within(set) && (set == 0 || (starters[set] & opened) != 0);
        }

        /** For each set: the most of it that can go through. */
        private void rank() {
            best[0] = 0;
            for (int set = 1; set <= left; set++) {
                if (comesThrough(set)) {
                    best[set] = Integer.bitCount(set);
                } else if (within(set)) {
                    best[set] = bestWithoutOne(set);
                }
            }
        }

        private int bestWithoutOne(int set) {
            int most = 0;
            for (int i = 0; i < goers; i++) {
                if (isIn(set, i)) {
                    most = Math.max(most, best[set & ~(1 << i)]);
                }
            }
            return most;
        }

        private void writeFirstRow(int[] row, int length) {
            int among = left;
            int open = opened;
            for (int place = 0; place < length && place < row.length; place++) {
                int i = Integer.numberOfTrailingZeros(firstsOf(among, length - place) & open);
                if (i >= goers) {
                    return;
                }
                row[place] = i;
                among &= ~(1 << i);
                open = after[i];
            }
        }

        /** Who can be the first of a row of so many. */
        private int firstsOf(int among, int size) {
            int firsts = 0;
            for (int set = 1; set <= among; set++) {
                if ((set & ~among) == 0 && Integer.bitCount(set) == size) {
                    firsts |= starters[set];
                }
            }
            return firsts;
        }

        private int ordersOfAll() {
            if (left == 0) {
                return 1;
            }
            for (int set = 1; set <= left; set++) {
                if (within(set)) {
                    countWays(set);
                }
            }
            return waysFrom(left, opened);
        }

        /** For each first: in how many orders all of a set can go. */
        private void countWays(int set) {
            for (int i = 0; i < goers; i++) {
                if (isIn(set, i)) {
                    int rest = set & ~(1 << i);
                    ways[set * MOST_GOERS + i] = rest == 0 ? 1 : waysFrom(rest, after[i]);
                }
            }
        }

        private int waysFrom(int set, int firsts) {
            int sum = 0;
            for (int i = 0; i < goers; i++) {
                if (isIn(set & firsts, i)) {
                    sum += ways[set * MOST_GOERS + i];
                }
            }
            return sum;
        }

        /** The first one to let go by which the first of two wins. */
        private int winningGoer() {
            for (int set = 0; set < left; set++) {
                if (within(set)) {
                    winners[set] = winnersAt(set);
                }
            }
            return winningMove(left, opened);
        }

        /** Behind whom, gone last, one whose turn it is wins while a set is left. */
        private int winnersAt(int set) {
            int behind = 0;
            for (int i = 0; i < goers; i++) {
                if (isIn(left & ~set, i) && winningMove(set, after[i]) != NONE) {
                    behind |= 1 << i;
                }
            }
            return behind;
        }

        private int winningMove(int set, int open) {
            for (int i = 0; i < goers; i++) {
                if (isIn(set & open, i) && !isIn(winners[set & ~(1 << i)], i)) {
                    return i;
                }
            }
            return NONE;
        }
    }
}
