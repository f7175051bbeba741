import java.util.Arrays;

/**
 * The opposition in the wastepaper baskets: papers that feel, weigh and vote by a rule of texts.
 *
 * All rows are made in the constructor and used again, so that a long run of calls stays small.
 */
public final class OppositionInBaskets {
    public static final int NONE = -1, BAD = -2, STATE = -3, FULL = -4;
    public static final long NO = -4611686018427387904L;

    private static final int NONE_SUCH = -1000, FAULT_AHEAD = -100;
    private static final int NOTHING = -11, OUTSIDE = -12, UNLIKE = -13, BELOW_ZERO = -14;

    private static final int MOST_PAPERS = 8, ALL_PAPERS = 255, TOPICS = 8, MOST_TEXTS = 6, SHEETS = 4, ALL_TOPICS = 8;
    private static final int MOST_ITEMS = 40, MOST_BYTES = 160, MOST_OPEN = 5, LAST_DAY = 999;
    private static final int MOST_DAYS = 40, MOST_MOTIONS = 99, MOST_SEEDS = 20, MOTIONS_OF_A_SEED = 5;

    /** What set(), told() and the guesses of tells() ask for. */
    private static final int DAY = 0, NEEDED = 1, NUMBER = 2, MOOD = 3, DESK = 4, CRUMPLED = 5, BURNT = 6, KIND = 7;
    private static final int WEIGHS = 8, SMOOTHS = 9, FEELS = 10, VOTES = 20;
    private static final int[] LEAST = {0, 1, 0, -9, 0, 0, 0, 0};
    private static final int[] GREATEST = {999, 999, 9, 9, 3, 99, 1, 5};

    private static final int DRAFT = 0, LETTER = 1, ENVELOPE = 2, MEMO = 3, DOODLE = 4, CORE = 5;
    /** The kind that each kind is under. */
    private static final int[] ABOVE = {-1, 0, 0, 1, 2, 0};

    private static final int MISSING = -1, BYTE_SORT = 0, SHORT_SORT = 1, INT_SORT = 2;

    private static final String FIRST_TEXT = "feels mood ; weighs 1 + number ; smooths 5 ;";
    private static final int FEELS_PART = 0, WEIGHS_PART = 1, SMOOTHS_PART = 2;

    /** Tokens; a sign is its own byte. */
    private static final int END = 0, BROKEN = 1, NUMBER_TOKEN = 2, NAME_TOKEN = 3;
    private static final int FEELS_KEY = 4, WEIGHS_KEY = 5, SMOOTHS_KEY = 6, OR_KEY = 7, AND_KEY = 8, NOT_KEY = 9;

    /** Codes of a text: below NAME_CODE a number, below OPERATION_CODE a name, else an operation. */
    private static final int NAME_CODE = 10000, OPERATION_CODE = 20000;
    private static final int OR = 20000, AND = 20001, LESS = 20002, SAME = 20003, PLUS = 20004, MINUS = 20005;
    private static final int TIMES = 20006, NOT = 20007, NEGATE = 20008;

    private final Basket now = new Basket();
    private final Basket kept = new Basket();
    private final Basket thought = new Basket();
    private boolean hasImage;
    private final Paper guess = new Paper();
    private final Tape tape = new Tape();
    private final Parser parser = new Parser(tape);
    private final Text[] texts = new Text[MOST_TEXTS];
    private int textCount;
    private final Sheet[] sheets = new Sheet[SHEETS];
    private final Tally tally = new Tally();

    public OppositionInBaskets() {
        tape.put(FIRST_TEXT);
        Text first = parser.readText();
        tape.size = 0;
        // every place holds a text, so that none is ever null
        for (int i = 0; i < MOST_TEXTS; i++) {
            texts[i] = first == null ? new Text(new int[0], 0, 0) : first;
        }
        textCount = 1;
        for (int i = 0; i < SHEETS; i++) {
            sheets[i] = new Sheet();
        }
    }

    // ---- papers

    public int set(int what, int of, int v) {
        if (what < DAY || what > BURNT) {
            return NONE_SUCH;
        }
        if (what >= NUMBER && !isPaper(of)) {
            return NONE_SUCH;
        }
        if (v < LEAST[what] || v > GREATEST[what]) {
            return NONE_SUCH;
        }
        int was = told(of, what);
        if (what == DAY) {
            now.day = v;
        } else if (what == NEEDED) {
            now.needed = v;
        } else {
            now.row[of].put(what, v);
        }
        return was;
    }

    public int paper(int kind, int number, int mood) {
        if (!inRange(KIND, kind) || !inRange(NUMBER, number) || !inRange(MOOD, mood)) {
            return BAD;
        }
        if (now.size >= MOST_PAPERS) {
            return FULL;
        }
        now.row[now.size].begin(kind, number, mood);
        now.size++;
        return now.size - 1;
    }

    public int told(int of, int what) {
        if (what == DAY) {
            return now.day;
        }
        if (what == NEEDED) {
            return now.needed;
        }
        if (!isPaper(of)) {
            return NONE_SUCH;
        }
        Paper p = now.row[of];
        if (what >= NUMBER && what <= KIND) {
            return p.get(what);
        }
        if (what == WEIGHS) {
            return weightOf(now, p);
        }
        if (what == SMOOTHS) {
            return smoothingOf(now, p);
        }
        if (what >= FEELS && what < FEELS + TOPICS) {
            return feelingOf(p, what - FEELS, textOf(now.rule), now.day);
        }
        if (what >= VOTES && what < VOTES + TOPICS) {
            return castVote(now, p, what - VOTES);
        }
        return NONE_SUCH;
    }

    public int burn(int desk) {
        if (!inRange(DESK, desk)) {
            return BAD;
        }
        int burnt = 0;
        for (int i = 0; i < now.size; i++) {
            Paper p = now.row[i];
            if (p.desk == desk && p.burnt == 0) {
                p.burnt = 1;
                burnt++;
            }
        }
        return burnt;
    }

    // ---- texts

    public int feed(int letter) {
        if (letter < 0 || letter > 255) {
            return BAD;
        }
        if (tape.size >= MOST_BYTES) {
            return FULL;
        }
        tape.add(letter);
        return tape.size;
    }

    public int text() {
        if (textCount >= MOST_TEXTS) {
            return FULL;
        }
        Text read = parser.readText();
        tape.size = 0;
        if (read == null) {
            return FAULT_AHEAD - tape.start;
        }
        texts[textCount] = read;
        textCount++;
        return textCount - 1;
    }

    public int force(int text) {
        if (text < 0 || text >= textCount) {
            return BAD;
        }
        int was = now.rule;
        now.rule = text;
        return was;
    }

    // ---- divisions

    public int division(int topic, int what) {
        if (!isTopic(topic) || what < 0 || what > 5) {
            return BAD;
        }
        weighAll(now);
        divide(now, topic);
        switch (what) {
            case 0:
                return tally.pro;
            case 1:
                return tally.con;
            case 2:
                return carried(tally.pro, tally.con, now.needed) ? 1 : 0;
            case 3:
                return tally.bitsOf(1);
            case 4:
                return tally.bitsOf(-1);
            default:
                return balance();
        }
    }

    public int topics(int what) {
        if (what < 0 || what > 2) {
            return BAD;
        }
        if (what == 0) {
            return carriedTopics(now);
        }
        int cause = 0;
        int most = -1;
        weighAll(now);
        for (int t = 0; t < TOPICS; t++) {
            divide(now, t);
            int apart = Math.abs(tally.pro - tally.con);
            if (apart > most) {
                most = apart;
                cause = t;
            }
        }
        return what == 1 ? cause : most;
    }

    public int day() {
        if (now.day >= LAST_DAY) {
            return STATE;
        }
        passDay(now);
        int smooth = 0;
        for (int i = 0; i < now.size; i++) {
            if (now.row[i].crumpled == 0 && now.row[i].burnt == 0) {
                smooth++;
            }
        }
        return smooth;
    }

    public int run(int n, int what) {
        if (n < 0 || n > MOST_DAYS || what < 0 || what > ALL_TOPICS) {
            return BAD;
        }
        thought.become(now);
        for (int i = 0; i < n; i++) {
            passDay(thought);
        }
        if (what == ALL_TOPICS) {
            return Integer.bitCount(carriedTopics(thought));
        }
        weighAll(thought);
        divide(thought, what);
        return tally.pro;
    }

    // ---- who decides

    public int often(int paper) {
        if (!stands(paper)) {
            return BAD;
        }
        weighCoalitions();
        int others = tally.standing & ~(1 << paper);
        int times = 0;
        for (int set = 0; set <= others; set++) {
            if ((set & ~others) == 0 && decides(tally.weightOfSet(set), tally.weight[paper])) {
                times++;
            }
        }
        return times;
    }

    public long power(int paper, int part) {
        if (!stands(paper) || part < 0 || part > 1) {
            return NO;
        }
        weighCoalitions();
        if (tally.weightOfSet(tally.standing) < now.needed) {
            return NO;
        }
        int others = tally.standing & ~(1 << paper);
        int count = Integer.bitCount(others);
        long orders = 0;
        for (int set = 0; set <= others; set++) {
            if ((set & ~others) == 0 && decides(tally.weightOfSet(set), tally.weight[paper])) {
                int ahead = Integer.bitCount(set);
                orders += factorial(ahead) * factorial(count - ahead);
            }
        }
        return fraction(orders, factorial(count + 1), part);
    }

    public int torn(int paper) {
        if (!stands(paper)) {
            return BAD;
        }
        weighCoalitions();
        int others = tally.standing & ~(1 << paper);
        int half = tally.weight[paper] / 2;
        int rest = tally.weight[paper] - half;
        int times = 0;
        for (int set = 0; set <= others; set++) {
            if ((set & ~others) == 0) {
                int weight = tally.weightOfSet(set);
                times += decides(weight, half) ? 1 : 0;
                times += decides(weight + rest, half) ? 1 : 0;
                times += decides(weight, rest) ? 1 : 0;
                times += decides(weight + half, rest) ? 1 : 0;
            }
        }
        return times;
    }

    public int fewest(int what) {
        if (what < 0 || what > 2) {
            return BAD;
        }
        weighCoalitions();
        int best = NONE;
        int least = MOST_PAPERS + 1;
        int winning = 0;
        for (int set = 0; set <= tally.standing; set++) {
            if ((set & ~tally.standing) == 0 && tally.weightOfSet(set) >= now.needed) {
                winning++;
                if (Integer.bitCount(set) < least) {
                    least = Integer.bitCount(set);
                    best = set;
                }
            }
        }
        if (what == 2) {
            return winning;
        }
        return what == 0 || best == NONE ? best : least;
    }

    public int stop(int topic, int what) {
        if (!isTopic(topic) || what < 0 || what > 1) {
            return BAD;
        }
        weighCoalitions();
        divide(now, topic);
        int pro = tally.bitsOf(1);
        int con = tally.bitsOf(-1);
        int best = 0;
        int least = MOST_PAPERS + 1;
        // a set with one in it who is burnt already is never among the fewest
        for (int set = 0; set <= tally.standing; set++) {
            int proLeft = tally.weightOfSet(pro & ~set);
            int conLeft = tally.weightOfSet(con & ~set);
            if (Integer.bitCount(set) < least && !carried(proLeft, conLeft, now.needed)) {
                least = Integer.bitCount(set);
                best = set;
            }
        }
        return what == 0 ? best : Integer.bitCount(best);
    }

    public int goesWith(int paper, int what) {
        if (!isPaper(paper) || what < 0 || what > 1) {
            return BAD;
        }
        int best = NONE;
        int most = NONE;
        for (int other = 0; other < now.size; other++) {
            if (other != paper && now.row[other].burnt == 0) {
                int alike = alikeTopics(now.row[paper], now.row[other]);
                if (alike > most) {
                    most = alike;
                    best = other;
                }
            }
        }
        return what == 0 ? best : most;
    }

    // ---- divisions that were told

    public int tells(int sheet, int paper, int what) {
        if (!isSheet(sheet) || !isPaper(paper) || what < 0 || what > 7) {
            return BAD;
        }
        Sheet s = sheets[sheet];
        if (s.sort == MISSING) {
            return NOTHING;
        }
        if (s.size != TOPICS) {
            return BAD;
        }
        Paper p = now.row[paper];
        switch (what) {
            case 0:
                return firstOtherwise(s, p, textOf(now.rule));
            case 1:
                return guessedBits(s, p, KIND);
            case 2:
                return guessedBits(s, p, NUMBER);
            case 3:
                return guessedBits(s, p, MOOD);
            case 4:
                return guessedCrumpled(s, p, false);
            case 5:
                return guessedCrumpled(s, p, true);
            case 6:
                return guessedTexts(s, p);
            default:
                return guessedPapers(s);
        }
    }

    public int film(int sheet, int paper) {
        if (!isSheet(sheet) || !isPaper(paper)) {
            return BAD;
        }
        Sheet s = sheets[sheet];
        s.become(BYTE_SORT, TOPICS);
        int votes = 0;
        for (int t = 0; t < TOPICS; t++) {
            int vote = voteOf(now.row[paper], t, textOf(now.rule), now.day);
            s.put(t, vote);
            votes += vote == 0 ? 0 : 1;
        }
        return votes;
    }

    public int drawn(int seed, int n) {
        if (n < 0 || n > MOST_MOTIONS) {
            return BAD;
        }
        return carriedOfSeed(carriedTopics(now), seed, n);
    }

    public long chance(int seed, int m, int k, int part) {
        if (m < 1 || m > MOST_SEEDS || k < 0 || k > MOTIONS_OF_A_SEED || part < 0 || part > 1) {
            return NO;
        }
        int topics = carriedTopics(now);
        int enough = 0;
        for (int i = 0; i < m; i++) {
            if (carriedOfSeed(topics, seed + i, MOTIONS_OF_A_SEED) >= k) {
                enough++;
            }
        }
        return fraction(enough, m, part);
    }

    public int image() {
        kept.become(now);
        hasImage = true;
        return kept.size;
    }

    public int back() {
        if (!hasImage) {
            return STATE;
        }
        now.become(kept);
        return now.size;
    }

    public int count(int what) {
        switch (what) {
            case 0:
                return now.size;
            case 1:
                return now.size - Integer.bitCount(now.standingBits());
            case 2:
                weighCoalitions();
                return tally.weightOfSet(tally.standing);
            case 3:
                return textCount;
            case 4:
                return tape.size;
            case 5:
                return now.rule;
            default:
                return BAD;
        }
    }

    // ---- the host

    public int sheet(int sheet, int sort, int n) {
        if (!isSheet(sheet) || sort < MISSING || sort > INT_SORT) {
            return BAD;
        }
        if (sort == MISSING) {
            sheets[sheet].become(MISSING, 0);
            return 1;
        }
        if (n > MOST_ITEMS) {
            return BAD;
        }
        if (n < 0) {
            return BELOW_ZERO;
        }
        sheets[sheet].become(sort, n);
        return 1;
    }

    public int cell(int sheet, int i, int v) {
        if (!isSheet(sheet)) {
            return BAD;
        }
        Sheet s = sheets[sheet];
        if (s.sort == MISSING) {
            return NOTHING;
        }
        if (i < 0 || i >= s.size) {
            return OUTSIDE;
        }
        s.put(i, v);
        return 1;
    }

    public int copy(int sheet, int i, int other, int j, int n) {
        if (!isSheet(sheet) || !isSheet(other)) {
            return BAD;
        }
        Sheet from = sheets[sheet];
        Sheet to = sheets[other];
        if (from.sort == MISSING || to.sort == MISSING) {
            return NOTHING;
        }
        if (from.sort != to.sort) {
            return UNLIKE;
        }
        if (!from.holds(i, n) || !to.holds(j, n)) {
            return OUTSIDE;
        }
        System.arraycopy(from.item, i, to.item, j, n);
        return n;
    }

    public int papers(int sheet, int sort, int from, int n) {
        if (!isSheet(sheet) || sort < BYTE_SORT || sort > INT_SORT || n < 0 || n > MOST_PAPERS) {
            return BAD;
        }
        Sheet s = sheets[sheet];
        if (s.sort == MISSING) {
            return NOTHING;
        }
        if (s.sort != sort) {
            return UNLIKE;
        }
        int came = 0;
        int place = from;
        for (int i = 0; i < n; i++) {
            if (!s.holds(place, 3)) {
                return OUTSIDE;
            }
            if (paper(s.get(place), s.get(place + 1), s.get(place + 2)) >= 0) {
                came++;
            }
            place += 3;
        }
        return came;
    }

    public int taken(int paper, int k) {
        if (!inRange(KIND, k)) {
            return BAD;
        }
        if (!isPaper(paper)) {
            return NOTHING;
        }
        Paper p = now.row[paper];
        return isUnder(p.kind, k) ? p.number : UNLIKE;
    }

    // ---- what is such

    private boolean isPaper(int i) {
        return i >= 0 && i < now.size;
    }

    private boolean stands(int i) {
        return isPaper(i) && now.row[i].burnt == 0;
    }

    private static boolean isTopic(int t) {
        return t >= 0 && t < TOPICS;
    }

    private static boolean isSheet(int i) {
        return i >= 0 && i < SHEETS;
    }

    private static boolean inRange(int what, int v) {
        return what >= 0 && what < LEAST.length && v >= LEAST[what] && v <= GREATEST[what];
    }

    private static boolean isUnder(int kind, int k) {
        int at = kind;
        for (int i = 0; i < ABOVE.length && at >= 0 && at < ABOVE.length; i++) {
            if (at == k) {
                return true;
            }
            at = ABOVE[at];
        }
        return false;
    }

    // ---- how a paper feels, weighs, smooths, votes

    private Text textOf(int n) {
        return texts[n >= 0 && n < MOST_TEXTS ? n : 0];
    }

    private static int bounded(int v, int least, int greatest) {
        return Math.max(least, Math.min(greatest, v));
    }

    private static int feelingOf(Paper p, int topic, Text text, int day) {
        int v = bounded(text.value(FEELS_PART, p, topic, day), -99, 99);
        switch (p.kind) {
            case LETTER:
                return 2 * v;
            case ENVELOPE:
                return topic % 2 == 0 ? v : -v;
            case MEMO:
                return topic == p.number % TOPICS ? 0 : 2 * v;
            case DOODLE:
                return p.mood;
            case CORE:
                return v - 1;
            default:
                return v;
        }
    }

    private int weightOf(Basket b, Paper p) {
        int v = bounded(textOf(b.rule).value(WEIGHS_PART, p, 0, b.day), 0, 99);
        return bounded(kindWeighs(p, v), 0, 99);
    }

    private static int kindWeighs(Paper p, int v) {
        switch (p.kind) {
            case LETTER:
            case MEMO:
                return v + p.number;
            case ENVELOPE:
                return v / 2;
            case DOODLE:
                return v / 2 + 1;
            case CORE:
                return 3;
            default:
                return v;
        }
    }

    private int smoothingOf(Basket b, Paper p) {
        int v = bounded(textOf(b.rule).value(SMOOTHS_PART, p, 0, b.day), 0, 99);
        return bounded(kindSmooths(p, v), 0, 99);
    }

    private static int kindSmooths(Paper p, int v) {
        switch (p.kind) {
            case ENVELOPE:
            case DOODLE:
                return 2 * v;
            case MEMO:
                return v + p.number;
            case CORE:
                return 0;
            default:
                return v;
        }
    }

    /** The vote of a paper, were it not burnt. */
    private static int voteOf(Paper p, int topic, Text text, int day) {
        return Integer.compare(feelingOf(p, topic, text, day), 0);
    }

    private int castVote(Basket b, Paper p, int topic) {
        return p.burnt == 1 ? 0 : voteOf(p, topic, textOf(b.rule), b.day);
    }

    private int alikeTopics(Paper p, Paper q) {
        int alike = 0;
        for (int t = 0; t < TOPICS; t++) {
            if (castVote(now, p, t) == castVote(now, q, t)) {
                alike++;
            }
        }
        return alike;
    }

    private void passDay(Basket b) {
        for (int i = 0; i < b.size; i++) {
            Paper p = b.row[i];
            if (p.burnt == 0) {
                p.crumpled = Math.max(0, p.crumpled - smoothingOf(b, p));
            }
        }
        b.day++;
    }

    // ---- divisions, coalitions

    private void weighCoalitions() {
        weighAll(now);
        tally.addUp();
    }

    /** Weights don't hang on the topic: they are laid once for all divisions of a call. */
    private void weighAll(Basket b) {
        tally.standing = b.standingBits();
        for (int i = 0; i < MOST_PAPERS; i++) {
            tally.weight[i] = (tally.standing >> i & 1) == 1 ? weightOf(b, b.row[i]) : 0;
        }
    }

    private void divide(Basket b, int topic) {
        tally.pro = 0;
        tally.con = 0;
        for (int i = 0; i < MOST_PAPERS; i++) {
            int vote = i < b.size ? castVote(b, b.row[i], topic) : 0;
            tally.vote[i] = vote;
            tally.pro += vote > 0 ? tally.weight[i] : 0;
            tally.con += vote < 0 ? tally.weight[i] : 0;
        }
    }

    private static boolean carried(int pro, int con, int needed) {
        return pro >= needed && pro > con;
    }

    private int carriedTopics(Basket b) {
        int bits = 0;
        weighAll(b);
        for (int t = 0; t < TOPICS; t++) {
            divide(b, t);
            if (carried(tally.pro, tally.con, b.needed)) {
                bits |= 1 << t;
            }
        }
        return bits;
    }

    private int balance() {
        boolean is = carried(tally.pro, tally.con, now.needed);
        int bits = 0;
        for (int i = 0; i < MOST_PAPERS; i++) {
            int moved = tally.vote[i] * tally.weight[i];
            if (carried(tally.pro - moved, tally.con + moved, now.needed) != is) {
                bits |= 1 << i;
            }
        }
        return bits;
    }

    /** Whether one of a weight makes others who don't win win. */
    private boolean decides(int others, int weight) {
        return others < now.needed && others + weight >= now.needed;
    }

    private static long factorial(int n) {
        long product = 1;
        for (int i = 2; i <= n; i++) {
            product *= i;
        }
        return product;
    }

    private static long fraction(long above, long below, int part) {
        long a = above;
        long b = below;
        // Euclid's way is far shorter than this for numbers up to 8!
        for (int i = 0; i < 100 && b != 0; i++) {
            long rest = a % b;
            a = b;
            b = rest;
        }
        if (a == 0) {
            return NO;
        }
        return part == 0 ? above / a : below / a;
    }

    private static int carriedOfSeed(int topics, int seed, int n) {
        int z = seed;
        int carried = 0;
        for (int i = 0; i < n; i++) {
            z = z * 1103515245 + 12345;
            carried += topics >> ((z >>> 9) % TOPICS) & 1;
        }
        return carried;
    }

    // ---- votes that a sheet tells

    private int firstOtherwise(Sheet s, Paper p, Text text) {
        for (int t = 0; t < TOPICS; t++) {
            if (s.get(t) != voteOf(p, t, text, now.day)) {
                return t;
            }
        }
        return NONE;
    }

    private int guessedBits(Sheet s, Paper p, int what) {
        int bits = 0;
        guess.become(p);
        for (int v = LEAST[what]; v <= GREATEST[what]; v++) {
            guess.put(what, v);
            if (firstOtherwise(s, guess, textOf(now.rule)) == NONE) {
                bits |= 1 << (v - LEAST[what]);
            }
        }
        return bits;
    }

    private int guessedCrumpled(Sheet s, Paper p, boolean least) {
        int many = 0;
        guess.become(p);
        for (int v = LEAST[CRUMPLED]; v <= GREATEST[CRUMPLED]; v++) {
            guess.crumpled = v;
            if (firstOtherwise(s, guess, textOf(now.rule)) == NONE) {
                if (least) {
                    return v;
                }
                many++;
            }
        }
        return least ? NONE : many;
    }

    private int guessedTexts(Sheet s, Paper p) {
        int bits = 0;
        for (int i = 0; i < textCount; i++) {
            if (firstOtherwise(s, p, textOf(i)) == NONE) {
                bits |= 1 << i;
            }
        }
        return bits;
    }

    private int guessedPapers(Sheet s) {
        int bits = 0;
        for (int i = 0; i < now.size; i++) {
            if (firstOtherwise(s, now.row[i], textOf(now.rule)) == NONE) {
                bits |= 1 << i;
            }
        }
        return bits;
    }

    private static final class Paper {
        int kind, number, mood, desk, crumpled, burnt;

        void begin(int kind, int number, int mood) {
            this.kind = kind;
            this.number = number;
            this.mood = mood;
            desk = 0;
            crumpled = 50;
            burnt = 0;
        }

        void become(Paper other) {
            kind = other.kind;
            number = other.number;
            mood = other.mood;
            desk = other.desk;
            crumpled = other.crumpled;
            burnt = other.burnt;
        }

        int get(int what) {
            switch (what) {
                case NUMBER:
                    return number;
                case MOOD:
                    return mood;
                case DESK:
                    return desk;
                case CRUMPLED:
                    return crumpled;
                case BURNT:
                    return burnt;
                default:
                    return kind;
            }
        }

        void put(int what, int v) {
            switch (what) {
                case NUMBER:
                    number = v;
                    break;
                case MOOD:
                    mood = v;
                    break;
                case DESK:
                    desk = v;
                    break;
                case CRUMPLED:
                    crumpled = v;
                    break;
                case BURNT:
                    burnt = v;
                    break;
                default:
                    kind = v;
                    break;
            }
        }
    }

    /** All that an image keeps. */
    private static final class Basket {
        int day, rule, size;
        int needed = 10;
        final Paper[] row = new Paper[MOST_PAPERS];

        Basket() {
            for (int i = 0; i < MOST_PAPERS; i++) {
                row[i] = new Paper();
            }
        }

        void become(Basket other) {
            day = other.day;
            rule = other.rule;
            size = other.size;
            needed = other.needed;
            for (int i = 0; i < MOST_PAPERS; i++) {
                row[i].become(other.row[i]);
            }
        }

        int standingBits() {
            int bits = 0;
            for (int i = 0; i < size && i < MOST_PAPERS; i++) {
                bits |= (1 - row[i].burnt) << i;
            }
            return bits;
        }
    }

    /** The weights of the papers that stand, and how they vote in the division at hand. */
    private static final class Tally {
        int pro, con, standing;
        final int[] weight = new int[MOST_PAPERS];
        final int[] vote = new int[MOST_PAPERS];
        private final int[] together = new int[ALL_PAPERS + 1];

        int bitsOf(int way) {
            int bits = 0;
            for (int i = 0; i < MOST_PAPERS; i++) {
                bits |= vote[i] == way ? 1 << i : 0;
            }
            return bits;
        }

        /** Lays out what each set of papers weighs together, so that no set is added up twice. */
        void addUp() {
            for (int i = 0; i < MOST_PAPERS; i++) {
                int bit = 1 << i;
                for (int set = 0; set < bit; set++) {
                    together[set | bit] = together[set] + weight[i];
                }
            }
        }

        int weightOfSet(int set) {
            return together[set & ALL_PAPERS];
        }
    }

    private static final class Sheet {
        int sort = MISSING;
        int size;
        final int[] item = new int[MOST_ITEMS];

        void become(int newSort, int newSize) {
            sort = newSort;
            size = newSize;
            Arrays.fill(item, 0);
        }

        /** Whether n items from item i on are all its own; n may be 0 behind the last one. */
        boolean holds(int i, int n) {
            return i >= 0 && n >= 0 && i <= size && n <= size - i;
        }

        int get(int i) {
            return i >= 0 && i < size ? item[i] : 0;
        }

        void put(int i, int v) {
            if (i >= 0 && i < size) {
                item[i] = sort == BYTE_SORT ? (byte) v : sort == SHORT_SORT ? (short) v : v;
            }
        }
    }

    /** The bytes that were fed, and the token of them that is at hand. */
    private static final class Tape {
        final int[] letter = new int[MOST_BYTES];
        int size;
        int start;
        int token;
        /** Of a number or a name the code that a text holds for it. */
        int value;
        private int place;

        void add(int c) {
            if (size < MOST_BYTES) {
                letter[size] = c;
                size++;
            }
        }

        void put(String text) {
            for (int i = 0; i < text.length(); i++) {
                add(text.charAt(i));
            }
        }

        void rewind() {
            place = 0;
            advance();
        }

        void advance() {
            while (place < size && (letter[place] == ' ' || letter[place] == '\n')) {
                place++;
            }
            start = place;
            value = 0;
            if (place >= size) {
                token = END;
                return;
            }
            int c = letter[place];
            if (isLower(c)) {
                skipWord();
                token = wordAtHand();
            } else if (isDigit(c)) {
                takeNumber();
            } else {
                token = isSign(c) ? c : BROKEN;
                place++;
            }
        }

        private void takeNumber() {
            while (place < size && isDigit(letter[place])) {
                // one that is too long is refused below: its value doesn't matter
                value = value * 10 + letter[place] - '0';
                place++;
            }
            token = place - start > 4 ? BROKEN : NUMBER_TOKEN;
        }

        private void skipWord() {
            while (place < size && isLower(letter[place])) {
                place++;
            }
        }

        private int wordAtHand() {
            int name = spells("crumpled") ? 0
                : spells("number") ? 1
                : spells("topic") ? 2
                : spells("mood") ? 3
                : spells("day") ? 4
                : spells("desk") ? 5 : NONE;
            if (name != NONE) {
                value = NAME_CODE + name;
                return NAME_TOKEN;
            }
            return spells("feels") ? FEELS_KEY
                : spells("weighs") ? WEIGHS_KEY
                : spells("smooths") ? SMOOTHS_KEY
                : spells("or") ? OR_KEY
                : spells("and") ? AND_KEY
                : spells("not") ? NOT_KEY : BROKEN;
        }

        private boolean spells(String word) {
            if (word.length() != place - start) {
                return false;
            }
            for (int i = 0; i < word.length(); i++) {
                if (word.charAt(i) != letter[start + i]) {
                    return false;
                }
            }
            return true;
        }

        private static boolean isLower(int c) {
            return c >= 'a' && c <= 'z';
        }

        private static boolean isDigit(int c) {
            return c >= '0' && c <= '9';
        }

        private static boolean isSign(int c) {
            return c == '(' || c == ')' || c == ';' || c == '+' || c == '-' || c == '*' || c == '<' || c == '=';
        }
    }

    /** Reads a text off the tape; where it can't go on, the tape's token at hand is the fault. */
    private static final class Parser {
        private final Tape tape;
        private final int[] code = new int[MOST_BYTES];
        private int length;

        Parser(Tape tape) {
            this.tape = tape;
        }

        Text readText() {
            length = 0;
            tape.rewind();
            if (!readPart(FEELS_KEY)) {
                return null;
            }
            int weighsAt = length;
            if (!readPart(WEIGHS_KEY)) {
                return null;
            }
            int smoothsAt = length;
            if (!readPart(SMOOTHS_KEY) || tape.token != END) {
                return null;
            }
            return new Text(Arrays.copyOf(code, length), weighsAt, smoothsAt);
        }

        private boolean readPart(int key) {
            return accept(key) && either(0) && accept(';');
        }

        private boolean accept(int token) {
            if (tape.token != token) {
                return false;
            }
            tape.advance();
            return true;
        }

        /** Each operation takes a byte of the tape at least, so the row is never too short. */
        private void emit(int c) {
            if (length < code.length) {
                code[length] = c;
                length++;
            }
        }

        private boolean either(int open) {
            if (!both(open)) {
                return false;
            }
            for (int i = 0; i < MOST_BYTES && tape.token == OR_KEY; i++) {
                tape.advance();
                if (!both(open)) {
                    return false;
                }
                emit(OR);
            }
            return true;
        }

        private boolean both(int open) {
            if (!negation(open)) {
                return false;
            }
            for (int i = 0; i < MOST_BYTES && tape.token == AND_KEY; i++) {
                tape.advance();
                if (!negation(open)) {
                    return false;
                }
                emit(AND);
            }
            return true;
        }

        private boolean negation(int open) {
            if (tape.token == NOT_KEY) {
                if (open >= MOST_OPEN) {
                    return false;
                }
                tape.advance();
                if (!negation(open + 1)) {
                    return false;
                }
                emit(NOT);
                return true;
            }
            if (!sum(open)) {
                return false;
            }
            int sign = tape.token;
            if (sign == '<' || sign == '=') {
                tape.advance();
                if (!sum(open)) {
                    return false;
                }
                emit(sign == '<' ? LESS : SAME);
            }
            return true;
        }

        private boolean sum(int open) {
            if (!term(open)) {
                return false;
            }
            for (int i = 0; i < MOST_BYTES && (tape.token == '+' || tape.token == '-'); i++) {
                int sign = tape.token;
                tape.advance();
                if (!term(open)) {
                    return false;
                }
                emit(sign == '+' ? PLUS : MINUS);
            }
            return true;
        }

        private boolean term(int open) {
            if (!one(open)) {
                return false;
            }
            for (int i = 0; i < MOST_BYTES && tape.token == '*'; i++) {
                tape.advance();
                if (!one(open)) {
                    return false;
                }
                emit(TIMES);
            }
            return true;
        }

        private boolean one(int open) {
            int token = tape.token;
            if (token == NUMBER_TOKEN || token == NAME_TOKEN) {
                emit(tape.value);
                tape.advance();
                return true;
            }
            if (token != '-' && token != '(' || open >= MOST_OPEN) {
                return false;
            }
            tape.advance();
            if (token == '(') {
                return either(open + 1) && accept(')');
            }
            if (!one(open + 1)) {
                return false;
            }
            emit(NEGATE);
            return true;
        }
    }

    /** A text as codes in the order in which a stack takes them: operations behind what they work on. */
    private static final class Text {
        private final int[] code;
        private final int[] stack;
        private final int weighsAt, smoothsAt;

        Text(int[] code, int weighsAt, int smoothsAt) {
            this.code = code;
            this.weighsAt = weighsAt;
            this.smoothsAt = smoothsAt;
            stack = new int[code.length];
        }

        int value(int part, Paper p, int topic, int day) {
            int from = part == FEELS_PART ? 0 : part == WEIGHS_PART ? weighsAt : smoothsAt;
            int to = part == FEELS_PART ? weighsAt : part == WEIGHS_PART ? smoothsAt : code.length;
            int top = 0;
            for (int i = from; i >= 0 && i < to && i < code.length; i++) {
                int c = code[i];
                if (c < OPERATION_CODE) {
                    if (top < stack.length) {
                        stack[top] = c < NAME_CODE ? c : named(c - NAME_CODE, p, topic, day);
                        top++;
                    }
                } else if (c == NOT || c == NEGATE) {
                    if (top > 0) {
                        stack[top - 1] = c == NEGATE ? -stack[top - 1] : stack[top - 1] == 0 ? 1 : 0;
                    }
                } else if (top > 1) {
                    top--;
                    stack[top - 1] = joined(c, stack[top - 1], stack[top]);
                }
            }
            return top > 0 ? stack[top - 1] : 0;
        }

        private static int named(int name, Paper p, int topic, int day) {
            switch (name) {
                case 0:
                    return p.crumpled;
                case 1:
                    return p.number;
                case 2:
                    return topic;
                case 3:
                    return p.mood;
                case 4:
                    return day;
                default:
                    return p.desk;
            }
        }

        private static int joined(int operation, int a, int b) {
            switch (operation) {
                case OR:
                    return a != 0 || b != 0 ? 1 : 0;
                case AND:
                    return a != 0 && b != 0 ? 1 : 0;
                case LESS:
                    return a < b ? 1 : 0;
                case SAME:
                    return a == b ? 1 : 0;
                case PLUS:
                    return a + b;
                case MINUS:
                    return a - b;
                default:
                    return a * b;
            }
        }
    }
}
