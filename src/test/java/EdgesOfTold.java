/** Edges of promises 19 to 25: tells, film, drawn, chance, image, back, count. */
final class EdgesOfTold {
    private static final int[] SEEDS = {0, 1, 2, 7, 12345, -1, -2, Edge.MIN, Edge.MIN + 1, Edge.MAX, Edge.MAX - 1, Edge.MAX - 9};
    private final Edge edge;

    EdgesOfTold(Edge edge) {
        this.edge = edge;
    }

    void all() {
        tellsTheFirst();
        tellsOfOne();
        tellsOfAll();
        tellsRefuses();
        film();
        filmRefuses();
        drawn();
        drawnRefuses();
        chance();
        chanceRefuses();
        image();
        back();
        backRefuses();
        count();
        countRefuses();
    }

    /** An object whose rule feels so, with a DRAFT of MOOD 1 and a sheet 0 of eight votes for. */
    private static OppositionInBaskets told(String feels) {
        OppositionInBaskets x = Due.ruled("feels " + feels + ";weighs 1;smooths 1;");
        x.paper(0, 0, 1);
        State.write(x, 0, 0, 1, 1, 1, 1, 1, 1, 1, 1);
        return x;
    }

    private void tellsTheFirst() {
        edge.promise(19, "tells");
        edge.says("a SHEET tells votes of a PAPER, were it not BURNT, on TOPICS 0 .. 7 (1 for, -1 against, 0): "
            + "the first that is otherwise; NONE");
        for (int sort = 0; sort < 3; sort++) {
            OppositionInBaskets x = new OppositionInBaskets();
            x.paper(0, 0, 1);
            x.set(6, 0, 1);
            State.write(x, 3, sort, 1, 1, 1, 1, 1, 1, 1, 1);
            edge.is("none is otherwise", x.tells(3, 0, 0), Edge.NONE);
            for (int v : new int[] {0, -1, 2, -2, 127, -128}) {
                for (int t = 7; t >= 0; t--) {
                    x.cell(3, t, v);
                    edge.is("from TOPIC " + t + " on " + v, x.tells(3, 0, 0), t);
                }
                State.write(x, 3, sort, 1, 1, 1, 1, 1, 1, 1, v);
                edge.is("the last is " + v, x.tells(3, 0, 0), 7);
                State.write(x, 3, sort, 1, 1, 1, 1, 1, 1, 1, 1);
            }
        }
        OppositionInBaskets x = new OppositionInBaskets();
        x.paper(0, 0, 1);
        State.write(x, 1, 2, 257, 1, 1, 1, 1, 1, 1, 1);
        edge.is("an int whose lowest 8 bits are 1", x.tells(1, 0, 0), 0);
        State.write(x, 1, 1, 257, 1, 1, 1, 1, 1, 1, 1);
        edge.is("a short whose lowest 8 bits are 1", x.tells(1, 0, 0), 0);
        State.write(x, 1, 0, 257, 1, 1, 1, 1, 1, 1, 1);
        edge.is("a byte of them", x.tells(1, 0, 0), Edge.NONE);
        x.sheet(1, 2, 8);
        x.set(3, 0, 0);
        edge.is("one who doesn't vote", x.tells(1, 0, 0), Edge.NONE);
    }

    private void tellsOfOne() {
        edge.says("KINDS (bits 0 .. 5), NUMBERS (bits 0 .. 9), MOODS (of -9 .. 9: bits, -9 is bit 0), "
            + "CRUMPLED (of 0 .. 99: how many, the least)");
        edge.is("KINDS: a CORE feels 0", told("1").tells(0, 0, 1), 0b010011);
        edge.is("KINDS: a CORE feels 1", told("2").tells(0, 0, 1), 0b110011);
        edge.is("KINDS: DOODLE alone", told("0").tells(0, 0, 1), 0b010000);
        edge.is("KINDS: all but one feel 0", told("number-9").tells(0, 0, 1), 0b010000);
        OppositionInBaskets x = told("0");
        State.write(x, 0, 0, -1, -1, -1, -1, -1, -1, -1, -1);
        edge.is("KINDS: CORE alone", x.tells(0, 0, 1), 0b100000);
        State.write(x, 0, 0, 2, 2, 2, 2, 2, 2, 2, 2);
        edge.is("KINDS: none", x.tells(0, 0, 1), 0);
        edge.is("NUMBERS: the first", told("number=0").tells(0, 0, 2), 1);
        edge.is("NUMBERS: the last", told("number=9").tells(0, 0, 2), 512);
        edge.is("NUMBERS: all", told("1").tells(0, 0, 2), 1023);
        edge.is("NUMBERS: none", told("number=10").tells(0, 0, 2), 0);
        edge.is("NUMBERS: none", told("0-number").tells(0, 0, 2), 0);
        edge.is("MOODS: the first", told("mood=-9").tells(0, 0, 3), 1);
        edge.is("MOODS: the last", told("mood=9").tells(0, 0, 3), 1 << 18);
        edge.is("MOODS: 0", told("mood=0").tells(0, 0, 3), 1 << 9);
        edge.is("MOODS: all", told("1").tells(0, 0, 3), (1 << 19) - 1);
        edge.is("MOODS: none", told("mood=10 or mood=-10").tells(0, 0, 3), 0);
        String[] crumpled = {"crumpled=0", "crumpled=99", "1", "0", "0<crumpled", "crumpled<99", "crumpled=100", "-1<crumpled"};
        int[] many = {1, 1, 100, 0, 99, 99, 0, 100};
        int[] least = {0, 99, 0, Edge.NONE, 1, 0, Edge.NONE, 0};
        for (int i = 0; i < crumpled.length; i++) {
            edge.is("CRUMPLED: how many, " + crumpled[i], told(crumpled[i]).tells(0, 0, 4), many[i]);
            edge.is("CRUMPLED: the least, " + crumpled[i], told(crumpled[i]).tells(0, 0, 5), least[i]);
        }
        guessedOfEachPaper();
        for (int what = 0; what < 8; what++) {
            int w = what;
            edge.leaves("tells(0, 0, " + w + ")", z -> z.tells(0, 0, w), State.SOME);
            edge.leaves("tells(0, 3, " + w + ") of a BURNT one", z -> z.tells(0, 3, w), State.SOME);
            edge.leaves("tells(2, 0, " + w + ")", z -> z.tells(2, 0, w), State.TEXTS);
        }
    }

    /** All but what is asked for is the PAPER's own, whichever was asked for ahead of it. */
    private void guessedOfEachPaper() {
        OppositionInBaskets x = Due.ruled("feels 20*(desk=2)+number+mood+(crumpled<10);weighs 1;smooths 1;");
        State.write(x, 0, 0, 1, 1, 1, 1, 1, 1, 1, 1);
        x.paper(0, 0, 0);
        x.paper(0, 9, 9);
        x.paper(0, 0, 0);
        x.set(4, 2, 2);
        x.paper(5, 0, 1);
        x.paper(2, 9, 9);
        int[] kinds = {0, 0b110011, 0b100011, 0b010011, 0b110011};
        int[] numbers = {1022, 1023, 1023, 1022, 0};
        int[] moods = {0x1FF << 10, (1 << 19) - 2, (1 << 19) - 1, 0x1FF << 10 & ~(1 << 10), 0};
        int[] many = {10, 100, 100, 10, 0};
        int[] least = {0, 0, 0, 0, Edge.NONE};
        for (int round = 0; round < 2; round++) {
            for (int p = 0; p < 5; p++) {
                edge.is("CRUMPLED of " + p + ": how many", x.tells(0, p, 4), many[p]);
                edge.is("CRUMPLED of " + p + ": the least", x.tells(0, p, 5), least[p]);
            }
            for (int p = 4; p >= 0; p--) {
                edge.is("KINDS of " + p, x.tells(0, p, 1), kinds[p]);
                edge.is("NUMBERS of " + p, x.tells(0, p, 2), numbers[p]);
                edge.is("MOODS of " + p, x.tells(0, p, 3), moods[p]);
            }
        }
    }

    private void tellsOfAll() {
        edge.says("TEXTS (bits), were they THE RULE, by which all would be so; PAPERS (bits, BURNT or not) that vote just so.");
        OppositionInBaskets x = new OppositionInBaskets();
        x.paper(0, 0, 1);
        x.sheet(0, 0, 8);
        edge.is("TEXTS: not the only one", x.tells(0, 0, 6), 0);
        State.write(x, 0, 0, 1, 1, 1, 1, 1, 1, 1, 1);
        edge.is("TEXTS: the only one", x.tells(0, 0, 6), 1);
        for (int i = 1; i < 6; i++) {
            Due.read(x, "feels " + (i < 5 ? "1" : "-1") + ";weighs 1;smooths 1;");
        }
        edge.is("TEXTS: all but the last", x.tells(0, 0, 6), 31);
        x.force(5);
        edge.is("TEXTS, whichever is THE RULE", x.tells(0, 0, 6), 31);
        edge.is("by THE RULE the first is otherwise", x.tells(0, 0, 0), 0);
        State.write(x, 0, 0, -1, -1, -1, -1, -1, -1, -1, -1);
        edge.is("TEXTS: the last", x.tells(0, 0, 6), 32);
        x.set(3, 0, -9);
        edge.is("TEXTS: the first and the last", x.tells(0, 0, 6), 33);
        OppositionInBaskets y = new OppositionInBaskets();
        for (int p = 0; p < 8; p++) {
            y.paper(0, 0, 1);
        }
        State.write(y, 0, 0, 1, 1, 1, 1, 1, 1, 1, 1);
        edge.is("PAPERS: all", y.tells(0, 3, 7), 255);
        y.burn(0);
        edge.is("PAPERS: all, BURNT as they are", y.tells(0, 3, 7), 255);
        y.set(3, 7, 0);
        edge.is("PAPERS: all but the last", y.tells(0, 3, 7), 127);
        y.set(3, 0, -1);
        edge.is("PAPERS: nor the first", y.tells(0, 3, 7), 126);
        y.sheet(0, 2, 8);
        edge.is("PAPERS: the last, who doesn't vote", y.tells(0, 3, 7), 128);
        State.write(y, 0, 0, -1, -1, -1, -1, -1, -1, -1, -1);
        edge.is("PAPERS: the first", y.tells(0, 3, 7), 1);
        State.write(y, 0, 0, 1, -1, -1, -1, -1, -1, -1, -1);
        edge.is("PAPERS: none", y.tells(0, 3, 7), 0);
    }

    private void tellsRefuses() {
        edge.says("BAD: SHEET, no such PAPER, what; -11; BAD: it doesn't tell 8.");
        for (int sheet : Edge.outside(0, 3)) {
            edge.leaves("tells(" + sheet + ", 0, 0)", x -> x.tells(sheet, 0, 0), Edge.BAD, State.values());
        }
        int[] missing = {0, 2, Edge.MAX, 3};
        for (State s : State.values()) {
            // a sheet that is missing, if there is one: what is BAD goes ahead of it
            int m = missing[s.ordinal()] == Edge.MAX ? 0 : missing[s.ordinal()];
            for (int p : Edge.outside(0, s.papers - 1)) {
                edge.leaves("tells(" + m + ", " + p + ", 0)", x -> x.tells(m, p, 0), Edge.BAD, s);
            }
            for (int what : Edge.outside(0, 7)) {
                edge.leaves("tells(" + m + ", 0, " + what + ")", x -> x.tells(m, 0, what), Edge.BAD, s);
            }
        }
        for (int what = 0; what < 8; what++) {
            int w = what;
            edge.leaves("tells(2, 0, " + w + ") of one that is missing", x -> x.tells(2, 0, w), Edge.NOTHING, State.SOME);
            edge.leaves("tells(3, 2, " + w + ") of one that is missing", x -> x.tells(3, 2, w), Edge.NOTHING, State.TEXTS);
            edge.leaves("tells(1, 0, " + w + ") of one that tells 6", x -> x.tells(1, 0, w), Edge.BAD, State.SOME);
            edge.leaves("tells(3, 0, " + w + ") of one that tells 7", x -> x.tells(3, 0, w), Edge.BAD, State.SOME);
            edge.leaves("tells(0, 0, " + w + ") of one that tells 40", x -> x.tells(0, 0, w), Edge.BAD, State.FULL);
            edge.leaves("tells(0, 0, " + w + ") of one that tells 0", x -> x.tells(0, 0, w), Edge.BAD, State.TEXTS);
        }
        for (int sort = 0; sort < 3; sort++) {
            for (int n = 0; n <= 40; n++) {
                OppositionInBaskets x = new OppositionInBaskets();
                x.paper(0, 0, 0);
                x.sheet(3, sort, n);
                edge.is("one that tells " + n, x.tells(3, 0, 0), n == 8 ? Edge.NONE : Edge.BAD);
            }
        }
    }

    private void film() {
        edge.promise(20, "film");
        edge.says("A SHEET truly becomes votes of a PAPER on TOPICS 0 .. 7, were it not BURNT (bytes): how many aren't 0.");
        for (int sheet = 0; sheet < 4; sheet++) {
            for (State s : new State[] {State.SOME, State.FULL, State.TEXTS}) {
                OppositionInBaskets x = s.make();
                int last = s.papers - 1;
                x.force(0);
                x.set(3, last, -9);
                x.set(6, last, 1);
                edge.is("film(" + sheet + ", " + last + ")", x.film(sheet, last), 8);
                edge.is("none is otherwise", x.tells(sheet, last, 0), Edge.NONE);
                edge.is("it has eight", x.copy(sheet, 7, sheet, 7, 1), 1);
                edge.is("it has no more", x.copy(sheet, 8, sheet, 8, 1), Edge.OUTSIDE);
                edge.is("they are bytes", x.papers(sheet, 0, 0, 0), 0);
            }
        }
        for (int number = 0; number < 10; number++) {
            OppositionInBaskets x = Due.ruled("feels topic<number;weighs 1;smooths 1;");
            x.paper(0, number, 0);
            edge.is("votes for " + number, x.film(3, 0), Math.min(8, number));
            for (int t = 0; t < 8; t++) {
                edge.is("one otherwise at most", x.cell(3, t, t < number ? 1 : 0), 1);
                edge.is("as it was", x.tells(3, 0, 0), Edge.NONE);
            }
        }
        OppositionInBaskets x = Due.ruled("feels 3-topic;weighs 1;smooths 1;");
        x.paper(0, 0, 0);
        State.write(x, 0, 2, 9, 9, 9, 9, 9, 9, 9, 9, 9);
        edge.is("for, not at all, against", x.film(0, 0), 7);
        x.sheet(1, 0, 8);
        int[] votes = {1, 1, 1, 0, -1, -1, -1, -1};
        for (int t = 0; t < 8; t++) {
            edge.is("the vote on " + t, x.copy(0, t, 1, t, 1), 1);
        }
        State.write(x, 2, 0, votes);
        edge.is("they are these", x.tells(2, 0, 0), x.tells(1, 0, 0));
        edge.is("they are these", x.tells(2, 0, 0), Edge.NONE);
    }

    private void filmRefuses() {
        edge.says("how many aren't 0. BAD.");
        for (int sheet : Edge.outside(0, 3)) {
            edge.leaves("film(" + sheet + ", 0)", x -> x.film(sheet, 0), Edge.BAD, State.values());
        }
        for (State s : State.values()) {
            for (int p : Edge.outside(0, s.papers - 1)) {
                for (int sheet = 0; sheet < 4; sheet++) {
                    int of = sheet;
                    edge.leaves("film(" + of + ", " + p + ")", x -> x.film(of, p), Edge.BAD, s);
                }
            }
        }
    }

    /** An object in which the motions on just one TOPIC are CARRIED. */
    private static OppositionInBaskets only(int topic) {
        OppositionInBaskets x = Due.ruled("feels topic=" + topic + ";weighs 10;smooths 1;");
        x.paper(0, 0, 0);
        return x;
    }

    /** On which TOPICS a SEED's motions are. */
    private static int[] motions(int seed, int n) {
        int[] topics = new int[n];
        long z = seed;
        for (int i = 0; i < n; i++) {
            z = (z * 1103515245L + 12345L) & 0xFFFFFFFFL;
            topics[i] = (int) (z / 512 % 8);
            z = z >= 0x80000000L ? z - 0x100000000L : z;
        }
        return topics;
    }

    private static int onTopic(int seed, int n, int topic) {
        int many = 0;
        for (int t : motions(seed, n)) {
            many += t == topic ? 1 : 0;
        }
        return many;
    }

    private void drawn() {
        edge.promise(21, "drawn");
        edge.says("DRAWN by a SEED: n (0 .. 99) motions on TOPICS (z >>> 9) % 8, z being z * 1103515245 + 12345 (an int; SEED at first) "
            + "anew for each: how many are CARRIED.");
        for (int t = 0; t < 8; t++) {
            OppositionInBaskets x = only(t);
            for (int seed : SEEDS) {
                for (int n : new int[] {0, 1, 2, 5, 98, 99}) {
                    edge.is("drawn(" + seed + ", " + n + ") of TOPIC " + t, x.drawn(seed, n), onTopic(seed, n, t));
                }
            }
        }
        // z is 12345, -740551042, -1492899873, -698016724, 229283573: that makes 24, 6942219, 5472787, 7025294, 447819
        int[] topics = {0, 3, 3, 6, 3};
        for (int n = 1; n <= 5; n++) {
            OppositionInBaskets x = only(topics[n - 1]);
            edge.is("motion " + n + " of SEED 0 is on TOPIC " + topics[n - 1], x.drawn(0, n) - x.drawn(0, n - 1), 1);
        }
        OppositionInBaskets all = Due.ruled("feels 1;weighs 10;smooths 1;");
        all.paper(0, 0, 0);
        for (int seed : SEEDS) {
            edge.is("none of none", all.drawn(seed, 0), 0);
            edge.is("one of one", all.drawn(seed, 1), 1);
            edge.is("all of 99", all.drawn(seed, 99), 99);
        }
        all.set(1, 0, 11);
        edge.is("none of 99", all.drawn(0, 99), 0);
        edge.is("nobody", new OppositionInBaskets().drawn(Edge.MAX, 99), 0);
    }

    private void drawnRefuses() {
        edge.says("DRAWN. BAD: n.");
        for (int n : Edge.outside(0, 99)) {
            for (int seed : new int[] {0, Edge.MIN, Edge.MAX}) {
                edge.leaves("drawn(" + seed + ", " + n + ")", x -> x.drawn(seed, n), Edge.BAD, State.values());
            }
        }
        for (State s : State.values()) {
            edge.leaves("drawn(3, 99)", x -> x.drawn(3, 99), s);
        }
    }

    private void chance() {
        edge.promise(22, "chance");
        edge.says("IN m seeds (1 .. 20), SEED and each 1 more (an int), 5 motions: of these those by which k (0 .. 5) or more are.");
        OppositionInBaskets all = Due.ruled("feels 1;weighs 10;smooths 1;");
        all.paper(0, 0, 0);
        for (int m : new int[] {1, 2, 19, 20}) {
            for (int k : new int[] {0, 1, 4, 5}) {
                edge.is("all are: above", all.chance(Edge.MAX, m, k, 0), 1);
                edge.is("all are: below", all.chance(Edge.MAX, m, k, 1), 1);
                edge.is("none is: above", new OppositionInBaskets().chance(3, m, k, 0), k == 0 ? 1 : 0);
                edge.is("none is: below", new OppositionInBaskets().chance(3, m, k, 1), 1);
            }
        }
        for (int t = 0; t < 8; t += 3) {
            OppositionInBaskets x = only(t);
            for (int seed : new int[] {0, -3, Edge.MAX - 1, Edge.MAX, Edge.MIN}) {
                for (int m : new int[] {1, 2, 3, 4, 19, 20}) {
                    for (int k : new int[] {0, 1, 2, 5}) {
                        int many = 0;
                        for (int i = 0; i < m; i++) {
                            many += onTopic(seed + i, 5, t) >= k ? 1 : 0;
                        }
                        int common = m;
                        while (many % common != 0 || m % common != 0) {
                            common--;
                        }
                        String call = "chance(" + seed + ", " + m + ", " + k;
                        edge.is(call + ", 0)", x.chance(seed, m, k, 0), many / common);
                        edge.is(call + ", 1)", x.chance(seed, m, k, 1), m / common);
                    }
                }
            }
        }
    }

    private void chanceRefuses() {
        edge.says("IN m seeds: part 0 above, 1 below the line, in lowest terms. NO: m, k, part.");
        for (int m : Edge.outside(1, 20)) {
            edge.leaves("chance(0, " + m + ", 0, 0)", x -> x.chance(0, m, 0, 0), Edge.NO, State.values());
        }
        edge.leaves("chance(0, 0, 0, 1)", x -> x.chance(0, 0, 0, 1), Edge.NO, State.values());
        for (int k : Edge.outside(0, 5)) {
            edge.leaves("chance(0, 1, " + k + ", 0)", x -> x.chance(0, 1, k, 0), Edge.NO, State.values());
            edge.leaves("chance(0, 20, " + k + ", 1)", x -> x.chance(0, 20, k, 1), Edge.NO, State.values());
        }
        for (int part : Edge.outside(0, 1)) {
            edge.leaves("chance(0, 1, 0, " + part + ")", x -> x.chance(0, 1, 0, part), Edge.NO, State.values());
            edge.leaves("chance(0, 20, 5, " + part + ")", x -> x.chance(0, 20, 5, part), Edge.NO, State.values());
        }
        for (State s : State.values()) {
            edge.leaves("chance(3, 20, 1, 0)", x -> x.chance(3, 20, 1, 0), s);
        }
    }

    private void image() {
        edge.promise(23, "image");
        edge.says("AN IMAGE is kept: how many PAPERS.");
        for (State s : State.values()) {
            OppositionInBaskets x = s.make();
            edge.is("image() in the state " + s, x.image(), s.papers);
            edge.is("image() again", x.image(), s.papers);
            edge.is("back()", x.back(), s.papers);
            for (int part : new int[] {0, 1, 2, 3, 5}) {
                OppositionInBaskets y = s.make();
                y.image();
                String changed = Probe.difference(part, y, s);
                edge.is("image() changed nothing else: " + changed, changed == null ? 0 : 1, 0);
                OppositionInBaskets z = s.make();
                z.image();
                z.back();
                changed = Probe.difference(part, z, s);
                edge.is("back() at once is as if it were not: " + changed, changed == null ? 0 : 1, 0);
            }
        }
    }

    private void back() {
        edge.promise(24, "back");
        edge.says("AN IMAGE keeps DAY, NEEDED, NUMBERS, MOODS, DESKS, CRUMPLED, BURNT, THE RULE (PAPERS that came since go).");
        int[] least = {0, 1, 0, -9, 0, 0, 0};
        int[] greatest = {999, 999, 9, 9, 3, 99, 1};
        for (int way = 0; way < 2; way++) {
            int[] first = way == 0 ? least : greatest;
            int[] then = way == 0 ? greatest : least;
            OppositionInBaskets x = Due.ruled(State.SHORTEST);
            for (int p = 0; p < 8; p++) {
                x.paper(p % 6, 5, 5);
            }
            everything(x, first);
            x.force(way);
            edge.is("image() of eight", x.image(), 8);
            everything(x, then);
            x.force(1 - way);
            edge.is("back() of eight", x.back(), 8);
            for (int p = 0; p < 8; p++) {
                for (int what = 0; what < 7; what++) {
                    edge.is("told(" + p + ", " + what + ")", x.told(p, what), first[what]);
                }
                edge.is("KIND", x.told(p, 7), p % 6);
            }
            edge.is("THE RULE", x.count(5), way);
            everything(x, then);
            edge.is("THE IMAGE stays", x.back(), 8);
            edge.is("the first's NUMBER", x.told(0, 2), first[2]);
        }
        OppositionInBaskets x = new OppositionInBaskets();
        edge.is("image() of nobody", x.image(), 0);
        for (int p = 0; p < 8; p++) {
            x.paper(0, 0, 0);
        }
        edge.is("all eight go", x.back(), 0);
        edge.is("nobody is left", x.count(0), 0);
        edge.is("nobody is left", x.told(0, 2), Edge.NONE_SUCH);
        edge.is("the first one anew", x.paper(0, 0, 0), 0);
        keepsNoMore();
    }

    private static void everything(OppositionInBaskets x, int[] values) {
        for (int what = 0; what < 7; what++) {
            for (int p = 0; p < 8; p++) {
                x.set(what, p, values[what]);
            }
        }
    }

    private void keepsNoMore() {
        edge.says("All that it keeps is as in THE IMAGE: how many PAPERS.");
        OppositionInBaskets x = new OppositionInBaskets();
        x.image();
        x.feed('f');
        x.sheet(3, 2, 40);
        edge.is("back()", x.back(), 0);
        edge.is("THE TAPE stays", x.count(4), 1);
        edge.is("SHEETS stay", x.cell(3, 39, 0), 1);
        edge.is("a TEXT", x.text(), -100);
        Due.read(x, State.SHORTEST);
        edge.is("back()", x.back(), 0);
        edge.is("TEXTS stay", x.count(3), 2);
        edge.is("the last TEXT stays", x.force(1), 0);
        edge.is("an image by it", x.image(), 0);
        x.force(0);
        x.back();
        edge.is("THE RULE", x.count(5), 1);
    }

    private void backRefuses() {
        edge.says("STATE: there is none.");
        edge.leaves("back()", x -> x.back(), Edge.STATE, State.NEW, State.TEXTS);
        edge.leaves("back() twice", x -> x.back() + x.back(), 2 * Edge.STATE, State.NEW, State.TEXTS);
    }

    private void count() {
        edge.promise(25, "count");
        edge.says("How many: 0 PAPERS, 1 BURNT, 2 WEIGHT of all that aren't, 3 TEXTS, 4 bytes of THE TAPE, 5 THE RULE.");
        // a letter, a draft, an envelope, a doodle; of all kinds one, a draft and a core
        int[][] want = {{0, 0, 0, 1, 0, 0}, {5, 1, 10 + 5 + 4 + 3, 3, 17, 1},
            {8, 0, 3 + 8 + 3 + 7 + 2 + 11 + 4 + 3, 1, 160, 0}, {3, 3, 0, 6, 27, 5}};
        for (State s : State.values()) {
            for (int what = 0; what < 6; what++) {
                int w = what;
                edge.leaves("count(" + what + ")", x -> x.count(w), want[s.ordinal()][what], s);
            }
        }
        OppositionInBaskets x = Due.ruled("feels 1;weighs 99;smooths 1;");
        for (int p = 0; p < 8; p++) {
            x.paper(0, 0, 0);
            edge.is("WEIGHT", x.count(2), 99 * p + 99);
        }
        for (int p = 0; p < 8; p++) {
            x.set(6, p, 1);
            edge.is("BURNT", x.count(1), p + 1);
            edge.is("WEIGHT of all that aren't", x.count(2), 693 - 99 * p);
            edge.is("PAPERS", x.count(0), 8);
        }
    }

    private void countRefuses() {
        edge.says("5 THE RULE. BAD.");
        for (int what : Edge.outside(0, 5)) {
            edge.leaves("count(" + what + ")", x -> x.count(what), Edge.BAD, State.values());
        }
    }
}
