import java.util.ArrayList;
import java.util.Arrays;
import java.util.List;
import java.util.function.BiPredicate;
import java.util.function.ToIntFunction;
import java.util.regex.Matcher;
import java.util.regex.Pattern;

/** The document told a second time, as slowly and plainly as can be, to hold random runs against. */
final class Model {
    static final long NO = -4611686018427387904L;
    static final int[] LEAST = {0, 1, 0, -9, 0, 0, 0};
    static final int[] GREATEST = {999, 999, 9, 9, 3, 99, 1};

    /** What a text's names mean where it is read. */
    record Where(Note note, int topic, int day) {
    }

    /** A paper: places 2 to 7 are as of told(). */
    record Note(int[] is) {
        Note copy() {
            return new Note(is.clone());
        }

        Note with(int what, int v) {
            Note n = copy();
            n.is[what] = v;
            return n;
        }

        boolean burnt() {
            return is[6] == 1;
        }
    }

    record Rule(ToIntFunction<Where> feels, ToIntFunction<Where> weighs, ToIntFunction<Where> smooths) {
    }

    record Image(int day, int needed, int rule, List<Note> notes) {
    }

    int day;
    int needed = 10;
    int rule;
    List<Note> notes = new ArrayList<>();
    final List<Rule> rules = new ArrayList<>();
    final StringBuilder tape = new StringBuilder();
    final Object[] sheets = new Object[4];
    Image image;

    Model() {
        rules.add(new Rule(w -> w.note.is[3], w -> 1 + w.note.is[2], w -> 5));
    }

    // ---- papers

    int set(int what, int of, int v) {
        if (what < 0 || what > 6 || what > 1 && (of < 0 || of >= notes.size())) {
            return -1000;
        }
        if (v < LEAST[what] || v > GREATEST[what]) {
            return -1000;
        }
        int was = told(of, what);
        if (what == 0) {
            day = v;
        } else if (what == 1) {
            needed = v;
        } else {
            notes.get(of).is[what] = v;
        }
        return was;
    }

    int paper(int kind, int number, int mood) {
        if (kind < 0 || kind > 5 || number < 0 || number > 9 || mood < -9 || mood > 9) {
            return -2;
        }
        if (notes.size() == 8) {
            return -4;
        }
        notes.add(new Note(new int[] {0, 0, number, mood, 0, 50, 0, kind}));
        return notes.size() - 1;
    }

    int told(int of, int what) {
        if (what == 0 || what == 1) {
            return what == 0 ? day : needed;
        }
        if (of < 0 || of >= notes.size() || what < 0 || what == 18 || what == 19 || what > 27) {
            return -1000;
        }
        Note n = notes.get(of);
        return what < 8 ? n.is[what]
            : what == 8 ? weight(n)
            : what == 9 ? smooths(n)
            : what < 18 ? feels(n, what - 10, rules.get(rule))
            : cast(n, what - 20);
    }

    int burn(int desk) {
        if (desk < 0 || desk > 3) {
            return -2;
        }
        int before = count(1);
        notes.stream().filter(n -> n.is[4] == desk).forEach(n -> n.is[6] = 1);
        return count(1) - before;
    }

    static int bound(int v, int least, int greatest) {
        return v < least ? least : v > greatest ? greatest : v;
    }

    int feels(Note n, int t, Rule r) {
        int v = bound(r.feels.applyAsInt(new Where(n, t, day)), -99, 99);
        int[] all = {v, 2 * v, t % 2 == 1 ? -v : v, n.is[2] % 8 == t ? 0 : 2 * v, n.is[3], v - 1};
        return all[n.is[7]];
    }

    int weight(Note n) {
        int v = bound(rules.get(rule).weighs.applyAsInt(new Where(n, 0, day)), 0, 99);
        int[] all = {v, v + n.is[2], v / 2, v + n.is[2], v / 2 + 1, 3};
        return bound(all[n.is[7]], 0, 99);
    }

    int smooths(Note n) {
        int v = bound(rules.get(rule).smooths.applyAsInt(new Where(n, 0, day)), 0, 99);
        int[] all = {v, v, 2 * v, v + n.is[2], 2 * v, 0};
        return bound(all[n.is[7]], 0, 99);
    }

    int vote(Note n, int t, Rule r) {
        return Integer.signum(feels(n, t, r));
    }

    int cast(Note n, int t) {
        return n.burnt() ? 0 : vote(n, t, rules.get(rule));
    }

    // ---- texts

    int feed(int letter) {
        if (letter < 0 || letter > 255) {
            return -2;
        }
        if (tape.length() == 160) {
            return -4;
        }
        tape.append((char) letter);
        return tape.length();
    }

    int text() {
        if (rules.size() == 6) {
            return -4;
        }
        Reader reader = new Reader(tape.toString());
        tape.setLength(0);
        try {
            rules.add(reader.rule());
            return rules.size() - 1;
        } catch (Fault f) {
            return -100 - f.place;
        }
    }

    int force(int text) {
        if (text < 0 || text >= rules.size()) {
            return -2;
        }
        int was = rule;
        rule = text;
        return was;
    }

    @SuppressWarnings("serial")
    static final class Fault extends RuntimeException {
        final int place;

        Fault(int place) {
            this.place = place;
        }
    }

    /** Cuts a text into tokens first, then reads these. */
    static final class Reader {
        static final Pattern TOKEN = Pattern.compile("[ \\n]*(?:([a-z]+|[0-9]+|[();+*<=-])|(\\z)|((?s).))");
        static final List<String> NAMES = List.of("crumpled", "number", "topic", "mood", "day", "desk");
        static final List<String> KEYS = List.of("feels", "weighs", "smooths", "or", "and", "not");
        final List<String> tokens = new ArrayList<>();
        final List<Integer> places = new ArrayList<>();
        int at;
        int open;

        Reader(String text) {
            Matcher m = TOKEN.matcher(text);
            int from = 0;
            boolean more = true;
            while (more) {
                m.region(from, text.length());
                if (!m.lookingAt()) {
                    throw new IllegalStateException(text);
                }
                int group = m.group(1) != null ? 1 : m.group(2) != null ? 2 : 3;
                String token = group == 1 ? m.group(1) : group == 2 ? "" : "?";
                tokens.add(good(token) ? token : "?");
                places.add(m.start(group));
                from = m.end();
                more = group != 2;
            }
        }

        static boolean good(String token) {
            if (token.matches("[a-z]+")) {
                return NAMES.contains(token) || KEYS.contains(token);
            }
            return !token.matches("[0-9]{5,}");
        }

        String now() {
            return tokens.get(at);
        }

        Fault fault() {
            return new Fault(places.get(at));
        }

        boolean eat(String token) {
            if (now().equals(token)) {
                at++;
                return true;
            }
            return false;
        }

        void must(String token) {
            if (!eat(token)) {
                throw fault();
            }
        }

        Rule rule() {
            must("feels");
            ToIntFunction<Where> f = e();
            must(";");
            must("weighs");
            ToIntFunction<Where> w = e();
            must(";");
            must("smooths");
            ToIntFunction<Where> s = e();
            must(";");
            if (!now().isEmpty()) {
                throw fault();
            }
            return new Rule(f, w, s);
        }

        void opens() {
            if (open == 5) {
                throw fault();
            }
            open++;
            at++;
        }

        ToIntFunction<Where> e() {
            ToIntFunction<Where> a = and();
            while (eat("or")) {
                ToIntFunction<Where> l = a;
                ToIntFunction<Where> r = and();
                a = w -> l.applyAsInt(w) != 0 || r.applyAsInt(w) != 0 ? 1 : 0;
            }
            return a;
        }

        ToIntFunction<Where> and() {
            ToIntFunction<Where> a = not();
            while (eat("and")) {
                ToIntFunction<Where> l = a;
                ToIntFunction<Where> r = not();
                a = w -> l.applyAsInt(w) != 0 && r.applyAsInt(w) != 0 ? 1 : 0;
            }
            return a;
        }

        ToIntFunction<Where> not() {
            if (now().equals("not")) {
                opens();
                ToIntFunction<Where> a = not();
                open--;
                return w -> a.applyAsInt(w) == 0 ? 1 : 0;
            }
            ToIntFunction<Where> l = sum();
            if (eat("<")) {
                ToIntFunction<Where> r = sum();
                return w -> l.applyAsInt(w) < r.applyAsInt(w) ? 1 : 0;
            }
            if (eat("=")) {
                ToIntFunction<Where> r = sum();
                return w -> l.applyAsInt(w) == r.applyAsInt(w) ? 1 : 0;
            }
            return l;
        }

        ToIntFunction<Where> sum() {
            ToIntFunction<Where> a = term();
            while (now().equals("+") || now().equals("-")) {
                int sign = eat("+") ? 1 : -1;
                at += sign < 0 ? 1 : 0;
                ToIntFunction<Where> l = a;
                ToIntFunction<Where> r = term();
                a = w -> l.applyAsInt(w) + sign * r.applyAsInt(w);
            }
            return a;
        }

        ToIntFunction<Where> term() {
            ToIntFunction<Where> a = one();
            while (eat("*")) {
                ToIntFunction<Where> l = a;
                ToIntFunction<Where> r = one();
                a = w -> (int) ((long) l.applyAsInt(w) * r.applyAsInt(w));
            }
            return a;
        }

        ToIntFunction<Where> one() {
            String t = now();
            if (t.equals("(")) {
                opens();
                ToIntFunction<Where> a = e();
                must(")");
                open--;
                return a;
            }
            if (t.equals("-")) {
                opens();
                ToIntFunction<Where> a = one();
                open--;
                return w -> -a.applyAsInt(w);
            }
            if (t.matches("[0-9]+")) {
                at++;
                int v = Integer.parseInt(t);
                return w -> v;
            }
            int name = NAMES.indexOf(t);
            if (name < 0) {
                throw fault();
            }
            at++;
            return name == 2 ? w -> w.topic : name == 4 ? w -> w.day
                : w -> w.note.is[name == 0 ? 5 : name == 1 ? 2 : name == 3 ? 3 : 4];
        }
    }

    // ---- divisions

    int[] side(int t, int way) {
        int weight = 0;
        int bits = 0;
        for (int i = 0; i < notes.size(); i++) {
            if (cast(notes.get(i), t) == way) {
                weight += weight(notes.get(i));
                bits |= 1 << i;
            }
        }
        return new int[] {weight, bits};
    }

    boolean wins(int pro, int con) {
        return pro >= needed && pro > con;
    }

    boolean carried(int t) {
        return wins(side(t, 1)[0], side(t, -1)[0]);
    }

    int division(int t, int what) {
        if (t < 0 || t > 7 || what < 0 || what > 5) {
            return -2;
        }
        int[] pro = side(t, 1);
        int[] con = side(t, -1);
        if (what < 5) {
            return new int[] {pro[0], con[0], carried(t) ? 1 : 0, pro[1], con[1]}[what];
        }
        int bits = 0;
        for (int i = 0; i < notes.size(); i++) {
            int w = weight(notes.get(i));
            int v = cast(notes.get(i), t);
            boolean other = v == 1 ? wins(pro[0] - w, con[0] + w) : v == -1 ? wins(pro[0] + w, con[0] - w) : carried(t);
            bits |= other != carried(t) ? 1 << i : 0;
        }
        return bits;
    }

    int topics(int what) {
        if (what < 0 || what > 2) {
            return -2;
        }
        int bits = 0;
        int cause = 0;
        for (int t = 0; t < 8; t++) {
            bits |= carried(t) ? 1 << t : 0;
            cause = apart(t) > apart(cause) ? t : cause;
        }
        return what == 0 ? bits : what == 1 ? cause : apart(cause);
    }

    int apart(int t) {
        return Math.abs(side(t, 1)[0] - side(t, -1)[0]);
    }

    void pass() {
        for (Note n : notes) {
            if (!n.burnt()) {
                n.is[5] = Math.max(0, n.is[5] - smooths(n));
            }
        }
        day++;
    }

    int day() {
        if (day == 999) {
            return -3;
        }
        pass();
        return (int) notes.stream().filter(n -> !n.burnt() && n.is[5] == 0).count();
    }

    int run(int n, int what) {
        if (n < 0 || n > 40 || what < 0 || what > 8) {
            return -2;
        }
        Image before = picture();
        for (int i = 0; i < n; i++) {
            pass();
        }
        int answer = what == 8 ? Integer.bitCount(topics(0)) : side(what, 1)[0];
        lay(before);
        return answer;
    }

    // ---- who decides

    /** Weights of those that stand; -1 for one that doesn't. */
    int[] weights() {
        return notes.stream().mapToInt(n -> n.burnt() ? -1 : weight(n)).toArray();
    }

    static int sumOf(int[] w, int set) {
        int sum = 0;
        for (int i = 0; i < w.length; i++) {
            if ((set >> i & 1) == 1) {
                if (w[i] < 0) {
                    return -1;
                }
                sum += w[i];
            }
        }
        return sum;
    }

    int oftenIn(int[] w, int p) {
        int times = 0;
        for (int set = 0; set < 1 << w.length; set++) {
            if ((set >> p & 1) == 1 && sumOf(w, set) >= needed && sumOf(w, set & ~(1 << p)) < needed) {
                times++;
            }
        }
        return times;
    }

    boolean stands(int p) {
        return p >= 0 && p < notes.size() && !notes.get(p).burnt();
    }

    int often(int p) {
        return stands(p) ? oftenIn(weights(), p) : -2;
    }

    long power(int p, int part) {
        if (!stands(p) || part < 0 || part > 1) {
            return NO;
        }
        int[] w = weights();
        long[] orders = new long[2];
        boolean any = walk(w, 0, 0, p, orders);
        if (!any) {
            return NO;
        }
        long common = java.math.BigInteger.valueOf(orders[0]).gcd(java.math.BigInteger.valueOf(orders[1])).longValue();
        return orders[part] / common;
    }

    boolean walk(int[] w, int used, int sum, int p, long[] orders) {
        boolean any = false;
        boolean end = true;
        for (int i = 0; i < w.length; i++) {
            if (w[i] >= 0 && (used >> i & 1) == 0) {
                end = false;
                boolean first = sum < needed && sum + w[i] >= needed;
                long before = orders[1];
                any |= first | walk(w, used | 1 << i, sum + w[i], p, orders);
                orders[0] += first && i == p ? orders[1] - before : 0;
            }
        }
        orders[1] += end ? 1 : 0;
        return any;
    }

    int torn(int p) {
        if (!stands(p)) {
            return -2;
        }
        int[] w = weights();
        int[] apart = Arrays.copyOf(w, w.length + 1);
        apart[p] = w[p] / 2;
        apart[w.length] = w[p] - w[p] / 2;
        return oftenIn(apart, p) + oftenIn(apart, w.length);
    }

    /** The smallest set of the papers, then the least as bits, that is as asked; NONE. */
    int smallest(BiPredicate<Model, Integer> asked) {
        for (int size = 0; size <= notes.size(); size++) {
            for (int set = 0; set < 1 << notes.size(); set++) {
                if (Integer.bitCount(set) == size && asked.test(this, set)) {
                    return set;
                }
            }
        }
        return -1;
    }

    int fewest(int what) {
        if (what < 0 || what > 2) {
            return -2;
        }
        int[] w = weights();
        if (what == 2) {
            int winning = 0;
            for (int set = 0; set < 1 << w.length; set++) {
                winning += sumOf(w, set) >= needed ? 1 : 0;
            }
            return winning;
        }
        int set = smallest((m, s) -> sumOf(w, s) >= m.needed);
        return what == 0 || set < 0 ? set : Integer.bitCount(set);
    }

    int stop(int topic, int what) {
        if (topic < 0 || topic > 7 || what < 0 || what > 1) {
            return -2;
        }
        int set = smallest((m, s) -> {
            Image before = m.picture();
            for (int i = 0; i < m.notes.size(); i++) {
                m.notes.get(i).is[6] |= s >> i & 1;
            }
            boolean is = m.carried(topic);
            m.lay(before);
            return !is;
        });
        return what == 0 ? set : Integer.bitCount(set);
    }

    int goesWith(int p, int what) {
        if (p < 0 || p >= notes.size() || what < 0 || what > 1) {
            return -2;
        }
        int best = -1;
        int most = -1;
        for (int q = notes.size() - 1; q >= 0; q--) {
            if (q == p || notes.get(q).burnt()) {
                continue;
            }
            int alike = 0;
            for (int t = 0; t < 8; t++) {
                alike += told(p, 20 + t) == told(q, 20 + t) ? 1 : 0;
            }
            if (alike >= most) {
                most = alike;
                best = q;
            }
        }
        return what == 0 ? best : most;
    }

    // ---- divisions that were told

    int tells(int sheet, int paper, int what) {
        if (sheet < 0 || sheet > 3 || paper < 0 || paper >= notes.size() || what < 0 || what > 7) {
            return -2;
        }
        if (sheets[sheet] == null) {
            return -11;
        }
        if (size(sheet) != 8) {
            return -2;
        }
        Note n = notes.get(paper);
        int answer = 0;
        if (what == 0) {
            return otherwise(sheet, n, rules.get(rule));
        }
        if (what < 4) {
            int of = what == 1 ? 7 : what;
            int least = what == 3 ? -9 : 0;
            int greatest = what == 1 ? 5 : 9;
            for (int v = least; v <= greatest; v++) {
                answer |= otherwise(sheet, n.with(of, v), rules.get(rule)) < 0 ? 1 << v - least : 0;
            }
            return answer;
        }
        if (what < 6) {
            int least = -1;
            for (int v = 99; v >= 0; v--) {
                if (otherwise(sheet, n.with(5, v), rules.get(rule)) < 0) {
                    least = v;
                    answer++;
                }
            }
            return what == 4 ? answer : least;
        }
        for (int i = 0; i < (what == 6 ? rules.size() : notes.size()); i++) {
            Note of = what == 6 ? n : notes.get(i);
            answer |= otherwise(sheet, of, rules.get(what == 6 ? i : rule)) < 0 ? 1 << i : 0;
        }
        return answer;
    }

    int otherwise(int sheet, Note n, Rule r) {
        for (int t = 0; t < 8; t++) {
            if (item(sheet, t) != vote(n, t, r)) {
                return t;
            }
        }
        return -1;
    }

    int film(int sheet, int paper) {
        if (sheet < 0 || sheet > 3 || paper < 0 || paper >= notes.size()) {
            return -2;
        }
        byte[] row = new byte[8];
        int votes = 0;
        for (int t = 0; t < 8; t++) {
            row[t] = (byte) vote(notes.get(paper), t, rules.get(rule));
            votes += Math.abs(row[t]);
        }
        sheets[sheet] = row;
        return votes;
    }

    int drawn(int seed, int n) {
        if (n < 0 || n > 99) {
            return -2;
        }
        int z = seed;
        int many = 0;
        for (int i = 0; i < n; i++) {
            z = z * 1103515245 + 12345;
            many += carried((z >>> 9) % 8) ? 1 : 0;
        }
        return many;
    }

    long chance(int seed, int m, int k, int part) {
        if (m < 1 || m > 20 || k < 0 || k > 5 || part < 0 || part > 1) {
            return NO;
        }
        int many = 0;
        for (int i = 0; i < m; i++) {
            many += drawn(seed + i, 5) >= k ? 1 : 0;
        }
        int common = java.math.BigInteger.valueOf(many).gcd(java.math.BigInteger.valueOf(m)).intValue();
        return (part == 0 ? many : m) / common;
    }

    Image picture() {
        return new Image(day, needed, rule, new ArrayList<>(notes.stream().map(Note::copy).toList()));
    }

    void lay(Image i) {
        day = i.day;
        needed = i.needed;
        rule = i.rule;
        notes = new ArrayList<>(i.notes.stream().map(Note::copy).toList());
    }

    int image() {
        image = picture();
        return notes.size();
    }

    int back() {
        if (image == null) {
            return -3;
        }
        lay(image);
        return notes.size();
    }

    int count(int what) {
        return switch (what) {
            case 0 -> notes.size();
            case 1 -> (int) notes.stream().filter(Note::burnt).count();
            case 2 -> notes.stream().filter(n -> !n.burnt()).mapToInt(this::weight).sum();
            case 3 -> rules.size();
            case 4 -> tape.length();
            case 5 -> rule;
            default -> -2;
        };
    }

    // ---- the host: Java's own rows, with what the machine itself throws

    int size(int sheet) {
        return java.lang.reflect.Array.getLength(sheets[sheet]);
    }

    int item(int sheet, int i) {
        return java.lang.reflect.Array.getInt(sheets[sheet], i);
    }

    int sheet(int sheet, int sort, int n) {
        if (sheet < 0 || sheet > 3 || sort < -1 || sort > 2 || sort >= 0 && n > 40) {
            return -2;
        }
        try {
            sheets[sheet] = sort == 0 ? new byte[n] : sort == 1 ? new short[n] : sort == 2 ? new int[n] : null;
            return 1;
        } catch (NegativeArraySizeException e) {
            return -14;
        }
    }

    int cell(int sheet, int i, int v) {
        if (sheet < 0 || sheet > 3) {
            return -2;
        }
        try {
            if (sheets[sheet] instanceof byte[] b) {
                b[i] = (byte) v;
            } else if (sheets[sheet] instanceof short[] s) {
                s[i] = (short) v;
            } else {
                ((int[]) sheets[sheet])[i] = v;
            }
            return 1;
        } catch (NullPointerException e) {
            return -11;
        } catch (IndexOutOfBoundsException e) {
            return -12;
        }
    }

    int copy(int sheet, int i, int other, int j, int n) {
        if (sheet < 0 || sheet > 3 || other < 0 || other > 3) {
            return -2;
        }
        try {
            System.arraycopy(sheets[sheet], i, sheets[other], j, n);
            return n;
        } catch (NullPointerException e) {
            return -11;
        } catch (ArrayStoreException e) {
            return -13;
        } catch (IndexOutOfBoundsException e) {
            return -12;
        }
    }

    int papers(int sheet, int sort, int from, int n) {
        if (sheet < 0 || sheet > 3 || sort < 0 || sort > 2 || n < 0 || n > 8) {
            return -2;
        }
        try {
            Object row = sort == 0 ? (byte[]) sheets[sheet] : sort == 1 ? (short[]) sheets[sheet] : (int[]) sheets[sheet];
            row.getClass();
            int came = 0;
            for (int i = 0; i < n; i++) {
                int at = Math.addExact(from, 3 * i);
                came += paper(item(sheet, at), item(sheet, at + 1), item(sheet, at + 2)) >= 0 ? 1 : 0;
            }
            return came;
        } catch (ClassCastException e) {
            return -13;
        } catch (NullPointerException e) {
            return -11;
        } catch (IndexOutOfBoundsException | ArithmeticException e) {
            return -12;
        }
    }

    static class Draft {
    }

    static class Letter extends Draft {
    }

    static class Envelope extends Draft {
    }

    static class Memo extends Letter {
    }

    static class Doodle extends Envelope {
    }

    static class Core extends Draft {
    }

    int taken(int paper, int k) {
        Object[] kinds = {new Draft(), new Letter(), new Envelope(), new Memo(), new Doodle(), new Core()};
        if (k < 0 || k > 5) {
            return -2;
        }
        if (paper < 0 || paper >= notes.size()) {
            return -11;
        }
        Note n = notes.get(paper);
        return kinds[k].getClass().isInstance(kinds[n.is[7]]) ? n.is[2] : -13;
    }
}
