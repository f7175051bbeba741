/** Edges of the document's "Terms": bounds, first and last values, how kinds feel, weigh and smooth where a bound is near. */
final class EdgesOfTerms {
    /** Greatest, least and 0 of an int, of numbers with four digits at most. */
    private static final String LEAST_INT = "8192*8192*32", GREATEST_INT = "(8192*8192*32-1)";
    private final Edge edge;

    EdgesOfTerms(Edge edge) {
        this.edge = edge;
    }

    void all() {
        edge.promise(0, "Terms");
        firstValues();
        lastValues();
        feels();
        weighs();
        smooths();
        textsTell();
        wraps();
        wrapsInWeighsAndSmooths();
        textNought();
        votes();
        carried();
        refusals();
        lastCall();
    }

    private void firstValues() {
        OppositionInBaskets x = new OppositionInBaskets();
        edge.says("999; 0 at first). NEEDED (1 .. 999; 10 at first)");
        edge.is("DAY at first", x.told(0, 0), 0);
        edge.is("NEEDED at first", x.told(0, 1), 10);
        edge.says("are of a DESK (0 .. 3; 0 as one comes), CRUMPLED (0 .. 99; 50 as one comes), BURNT or not (1, 0; not, as one comes)");
        for (int kind = 0; kind < 6; kind++) {
            x.paper(kind, 9 - kind, kind - 9);
            edge.is("DESK as one comes", x.told(kind, 4), 0);
            edge.is("CRUMPLED as one comes", x.told(kind, 5), 50);
            edge.is("BURNT as one comes", x.told(kind, 6), 0);
        }
        OppositionInBaskets y = new OppositionInBaskets();
        y.image();
        y.paper(0, 0, 0);
        y.set(4, 0, 3);
        y.set(5, 0, 99);
        y.set(6, 0, 1);
        y.back();
        y.paper(0, 0, 0);
        edge.is("DESK as one comes where another one was", y.told(0, 4), 0);
        edge.is("CRUMPLED as one comes where another one was", y.told(0, 5), 50);
        edge.is("BURNT as one comes where another one was", y.told(0, 6), 0);
        edge.says("SHEETS 0 .. 3 are rows of numbers, or missing (as all are at first)");
        for (int sheet = 0; sheet < 4; sheet++) {
            edge.is("a SHEET at first", x.cell(sheet, 0, 0), Edge.NOTHING);
        }
        edge.says("TEXT 0, at first THE RULE");
        edge.is("THE RULE at first", x.count(5), 0);
        edge.is("TEXTS at first", x.count(3), 1);
    }

    /** Each value keeps its bounds apart from those of the others: all are set to their last ones at once. */
    private void lastValues() {
        int[] least = {0, 1, 0, -9, 0, 0, 0};
        int[] greatest = {999, 999, 9, 9, 3, 99, 1};
        edge.says("PAPERS (8 at most, numbered from 0)");
        OppositionInBaskets x = new OppositionInBaskets();
        for (int p = 0; p < 8; p++) {
            edge.is("paper " + p, x.paper(p % 6, 5, 0), p);
        }
        edge.is("a ninth", x.paper(0, 0, 0), Edge.FULL);
        edge.says("a NUMBER (0 .. 9), a MOOD (-9 .. 9)");
        for (int what = 0; what < 7; what++) {
            for (int p : new int[] {0, 7}) {
                x.set(what, p, greatest[what]);
                edge.is("the greatest of " + what, x.told(p, what), greatest[what]);
                edge.is("one more", x.set(what, p, greatest[what] + 1), Edge.NONE_SUCH);
                edge.is("the greatest is left", x.set(what, p, least[what]), greatest[what]);
                edge.is("the least of " + what, x.told(p, what), least[what]);
                edge.is("one less", x.set(what, p, least[what] - 1), Edge.NONE_SUCH);
                edge.is("the least is left", x.set(what, p, greatest[what]), least[what]);
            }
        }
        for (int what = 2; what < 7; what++) {
            edge.is("the greatest of " + what + " of the first", x.told(0, what), greatest[what]);
            edge.is("the greatest of " + what + " of the last", x.told(7, what), greatest[what]);
        }
    }

    private static OppositionInBaskets allKinds(String feels, String weighs, String smooths, int number, int mood) {
        OppositionInBaskets x = Due.ruled("feels " + feels + ";weighs " + weighs + ";smooths " + smooths + ";");
        for (int kind = 0; kind < 6; kind++) {
            x.paper(kind, number, mood);
        }
        return x;
    }

    private void told(String of, OppositionInBaskets x, int what, int... want) {
        for (int kind = 0; kind < 6; kind++) {
            edge.is(of + ", kind " + kind, x.told(kind, what), want[kind]);
        }
    }

    private void feels() {
        edge.says("DRAFT: v; LETTER: twice a DRAFT's; ENVELOPE: 0 less a DRAFT's, if t is odd, else as a DRAFT; "
            + "MEMO: 0, if t is NUMBER modulo 8, else as a LETTER; DOODLE: m; CORE: 1 less than a DRAFT.");
        told("99 of TOPIC 6", allKinds("99", "1", "1", 7, -9), 16, 99, 198, 99, 198, -9, 98);
        told("99 of TOPIC 7", allKinds("99", "1", "1", 7, -9), 17, 99, 198, -99, 0, -9, 98);
        told("-99 of TOPIC 0", allKinds("-99", "1", "1", 7, 9), 10, -99, -198, -99, -198, 9, -100);
        told("-99 of TOPIC 1", allKinds("-99", "1", "1", 7, 9), 11, -99, -198, 99, -198, 9, -100);
        told("0 of TOPIC 1", allKinds("0", "1", "1", 7, 0), 11, 0, 0, 0, 0, 0, -1);
        told("1 of TOPIC 1", allKinds("1", "1", "1", 7, 0), 11, 1, 2, -1, 2, 0, 0);
        OppositionInBaskets all = allKinds("7", "1", "1", 3, -2);
        for (int t = 0; t < 8; t++) {
            told("7 of TOPIC " + t, all, 10 + t, 7, 14, t == 1 || t == 3 || t == 5 || t == 7 ? -7 : 7, t == 3 ? 0 : 14, -2, 6);
        }
        edge.says("MEMO: 0, if t is NUMBER modulo 8, else as a LETTER");
        int[] silent = {0, 1, 2, 3, 4, 5, 6, 7, 0, 1};
        for (int number = 0; number < 10; number++) {
            OppositionInBaskets x = allKinds("3", "1", "1", number, 0);
            for (int t = 0; t < 8; t++) {
                edge.is("a MEMO of NUMBER " + number + " of TOPIC " + t, x.told(3, 10 + t), t == silent[number] ? 0 : 6);
            }
        }
    }

    private void weighs() {
        edge.says("DRAFT: v; LETTER: NUMBER more than a DRAFT; ENVELOPE: half (cut) of a DRAFT's; MEMO: as a LETTER; "
            + "DOODLE: 1 more than an ENVELOPE; CORE: 3.");
        told("weighs 0", allKinds("1", "0", "1", 0, 0), 8, 0, 0, 0, 0, 1, 3);
        told("weighs 1", allKinds("1", "1", "1", 0, 0), 8, 1, 1, 0, 1, 1, 3);
        told("weighs 2", allKinds("1", "2", "1", 0, 0), 8, 2, 2, 1, 2, 2, 3);
        edge.says("(WEIGHS, SMOOTHS 0 .. 99, else the bound: laid once, on what comes out.)");
        told("weighs 90 with NUMBER 9", allKinds("1", "90", "1", 9, 0), 8, 90, 99, 45, 99, 46, 3);
        told("weighs 91 with NUMBER 9", allKinds("1", "91", "1", 9, 0), 8, 91, 99, 45, 99, 46, 3);
        told("weighs 89 with NUMBER 9", allKinds("1", "89", "1", 9, 0), 8, 89, 98, 44, 98, 45, 3);
        told("weighs 98", allKinds("1", "98", "1", 1, 0), 8, 98, 99, 49, 99, 50, 3);
        told("weighs 99", allKinds("1", "99", "1", 1, 0), 8, 99, 99, 49, 99, 50, 3);
        edge.says("Quotients are cut toward 0.");
        told("half of 99", allKinds("1", "99", "1", 0, 0), 8, 99, 99, 49, 99, 50, 3);
        told("half of 3", allKinds("1", "3", "1", 0, 0), 8, 3, 3, 1, 3, 2, 3);
    }

    private void smooths() {
        edge.says("DRAFT: v; LETTER: as a DRAFT; ENVELOPE: twice a DRAFT's; MEMO: NUMBER more than a LETTER; "
            + "DOODLE: as an ENVELOPE; CORE: 0.");
        told("smooths 0", allKinds("1", "1", "0", 0, 0), 9, 0, 0, 0, 0, 0, 0);
        told("smooths 1 with NUMBER 9", allKinds("1", "1", "1", 9, 0), 9, 1, 1, 2, 10, 2, 0);
        edge.says("(WEIGHS, SMOOTHS 0 .. 99, else the bound: laid once, on what comes out.)");
        told("smooths 49", allKinds("1", "1", "49", 0, 0), 9, 49, 49, 98, 49, 98, 0);
        told("smooths 50", allKinds("1", "1", "50", 0, 0), 9, 50, 50, 99, 50, 99, 0);
        told("smooths 89 with NUMBER 9", allKinds("1", "1", "89", 9, 0), 9, 89, 89, 99, 98, 99, 0);
        told("smooths 90 with NUMBER 9", allKinds("1", "1", "90", 9, 0), 9, 90, 90, 99, 99, 99, 0);
        told("smooths 91 with NUMBER 9", allKinds("1", "1", "91", 9, 0), 9, 91, 91, 99, 99, 99, 0);
        told("smooths 99", allKinds("1", "1", "99", 0, 0), 9, 99, 99, 99, 99, 99, 0);
    }

    private void textsTell() {
        edge.says("feels (-99 .. 99, else the bound), weighs, smooths (0 .. 99, else the bound).");
        String[] value = {"98", "99", "100", "9999", "0", "-1", "-98", "-99", "-100", "-9999", GREATEST_INT, LEAST_INT};
        int[] feels = {98, 99, 99, 99, 0, -1, -98, -99, -99, -99, 99, -99};
        for (int i = 0; i < value.length; i++) {
            int v = feels[i];
            int least = Math.max(0, v);
            OppositionInBaskets x = allKinds(value[i], value[i], value[i], 0, 3);
            told("feels " + value[i], x, 10, v, 2 * v, v, 0, 3, v - 1);
            told("feels " + value[i] + " of TOPIC 1", x, 11, v, 2 * v, -v, 2 * v, 3, v - 1);
            told("weighs " + value[i], x, 8, least, least, least / 2, least, least / 2 + 1, 3);
            told("smooths " + value[i], x, 9, least, least, Math.min(99, 2 * least), least, Math.min(99, 2 * least), 0);
        }
        for (String below : new String[] {"-1", "-100", LEAST_INT}) {
            OppositionInBaskets y = allKinds("1", below, below, 9, 0);
            told("weighs " + below + " with NUMBER 9", y, 8, 0, 9, 0, 9, 1, 3);
            told("smooths " + below + " with NUMBER 9", y, 9, 0, 0, 0, 9, 0, 0);
        }
        names();
        edge.says("topic: the TOPIC (of weighs, smooths 0)");
        OppositionInBaskets x = allKinds("topic*9", "7+topic", "8+topic", 0, 0);
        told("the first TOPIC", x, 10, 0, 0, 0, 0, 0, -1);
        told("the last TOPIC", x, 17, 63, 126, -63, 126, 0, 62);
        told("weighs", x, 8, 7, 7, 3, 7, 4, 3);
        told("smooths", x, 9, 8, 8, 16, 8, 16, 0);
    }

    private void names() {
        edge.says("Of a PAPER: crumpled: CRUMPLED; number: NUMBER; topic: the TOPIC (of weighs, smooths 0); mood: MOOD; day: DAY; "
            + "desk: DESK.");
        String[] name = {"day-950", "topic", "number", "mood", "desk", "crumpled"};
        int[] least = {-99, 7, 0, -9, 0, 0};
        int[] greatest = {49, 7, 9, 9, 3, 99};
        int[] lastOf = {999, 999, 9, 9, 3, 99};
        int[] firstOf = {0, 1, 0, -9, 0, 0};
        for (int i = 0; i < name.length; i++) {
            OppositionInBaskets x = Due.ruled("feels " + name[i] + ";weighs " + name[i] + ";smooths " + name[i] + ";");
            x.paper(0, 1, 1);
            for (int what = 0; what < 6; what++) {
                x.set(what, 0, what == i ? firstOf[i] : lastOf[what]);
            }
            edge.is("the least " + name[i], x.told(0, 17), least[i]);
            edge.is("weighs the least " + name[i], x.told(0, 8), i == 1 ? 0 : Math.max(0, least[i]));
            edge.is("smooths the least " + name[i], x.told(0, 9), i == 1 ? 0 : Math.max(0, least[i]));
            for (int what = 0; what < 6; what++) {
                x.set(what, 0, what == i ? lastOf[i] : firstOf[what]);
            }
            edge.is("the greatest " + name[i], x.told(0, 17), greatest[i]);
            edge.is("weighs the greatest " + name[i], x.told(0, 8), i == 1 ? 0 : greatest[i]);
            edge.is("smooths the greatest " + name[i], x.told(0, 9), i == 1 ? 0 : greatest[i]);
        }
    }

    /** What a DRAFT of a NUMBER feels. */
    private void feelsOf(String feels, int number, int want) {
        OppositionInBaskets x = Due.ruled("feels " + feels + ";weighs 1;smooths 1;");
        x.paper(0, number, 0);
        edge.is("feels " + feels + " with NUMBER " + number, x.told(0, 10), want);
    }

    private void wraps() {
        edge.says("An E is an int (32 bits, wrapping)");
        feelsOf(GREATEST_INT + "+number", 0, 99);
        feelsOf(GREATEST_INT + "+number", 1, -99);
        feelsOf(LEAST_INT + "-number", 0, -99);
        feelsOf(LEAST_INT + "-number", 1, 99);
        // 46340 squared is an int's last square; 46341 squared is beyond
        feelsOf("(4634*10+number)*(4634*10+number)", 0, 99);
        feelsOf("(4634*10+number)*(4634*10+number)", 1, -99);
        feelsOf("-(" + LEAST_INT + ")", 0, -99);
        feelsOf("0-" + LEAST_INT, 0, -99);
        feelsOf("-1*(" + LEAST_INT + ")", 0, -99);
        feelsOf(LEAST_INT + "*2+7", 0, 7);
        feelsOf(GREATEST_INT + "*" + GREATEST_INT, 0, 1);
        feelsOf(GREATEST_INT + "+" + GREATEST_INT, 0, -2);
        feelsOf("(8192*8)*(8192*8)", 0, 0);
        edge.says("of or, and, not, <, = 1 or 0 (what is not 0 is true)");
        feelsOf("not(8192*8)*(8192*8)", 0, 1);
        feelsOf("(8192*8)*(8192*8)=0", 0, 1);
        feelsOf(GREATEST_INT + "<-1", 0, 0);
        feelsOf("-2<" + GREATEST_INT, 0, 1);
        feelsOf(LEAST_INT + "<1", 0, 1);
        feelsOf("1<" + LEAST_INT, 0, 0);
        feelsOf(LEAST_INT + "=0", 0, 0);
        feelsOf(LEAST_INT + "<" + LEAST_INT, 0, 0);
        feelsOf("not(" + LEAST_INT + ")", 0, 0);
        feelsOf(LEAST_INT + " and -1", 0, 1);
        feelsOf("0 or " + LEAST_INT, 0, 1);
        feelsOf("0<0", 0, 0);
        feelsOf("0=0", 0, 1);
        feelsOf("-1<0", 0, 1);
        feelsOf("0<1", 0, 1);
        feelsOf("0 or 0", 0, 0);
        feelsOf("0 or 1", 0, 1);
        feelsOf("1 or 0", 0, 1);
        feelsOf("0 and 0", 0, 0);
        feelsOf("0 and 1", 0, 0);
        feelsOf("1 and 0", 0, 0);
        feelsOf("1 or 1", 0, 1);
        feelsOf("2 and 2", 0, 1);
        feelsOf("not -1", 0, 0);
        feelsOf("not 0", 0, 1);
    }

    private void wrapsInWeighsAndSmooths() {
        edge.says("An E is an int (32 bits, wrapping)");
        String next = GREATEST_INT + "+number";
        OppositionInBaskets x = Due.ruled("feels 1;weighs " + next + ";smooths " + next + ";");
        x.paper(0, 0, 0);
        x.paper(0, 1, 0);
        edge.is("weighs the greatest", x.told(0, 8), 99);
        edge.is("weighs beyond it", x.told(1, 8), 0);
        edge.is("smooths the greatest", x.told(0, 9), 99);
        edge.is("smooths beyond it", x.told(1, 9), 0);
    }

    private void textNought() {
        edge.says("TEXT 0, at first THE RULE, is: feels mood ; weighs 1 + number ; smooths 5 ;");
        OppositionInBaskets x = new OppositionInBaskets();
        x.paper(0, 0, -9);
        x.paper(0, 9, 9);
        int[][] want = {{1, 5, -9}, {10, 5, 9}};
        for (int p = 0; p < 2; p++) {
            edge.is("weighs", x.told(p, 8), want[p][0]);
            edge.is("smooths", x.told(p, 9), want[p][1]);
            edge.is("feels of the first", x.told(p, 10), want[p][2]);
            edge.is("feels of the last", x.told(p, 17), want[p][2]);
        }
    }

    private void votes() {
        edge.says("each PAPER that isn't BURNT votes FOR it, if it FEELS more than 0, AGAINST it, if less; else not at all.");
        OppositionInBaskets x = new OppositionInBaskets();
        int[] moods = {-9, -1, 0, 1, 9};
        for (int p = 0; p < moods.length; p++) {
            x.paper(0, 0, moods[p]);
        }
        for (int t : new int[] {0, 7}) {
            edge.is("who votes for", x.division(t, 3), 0b11000);
            edge.is("who votes against", x.division(t, 4), 0b00011);
            for (int p = 0; p < moods.length; p++) {
                edge.is("the vote of MOOD " + moods[p], x.told(p, 20 + t), Integer.signum(moods[p]));
            }
        }
        for (int p = 0; p < moods.length; p++) {
            x.set(6, p, 1);
        }
        edge.is("BURNT ones don't vote for", x.division(0, 3), 0);
        edge.is("BURNT ones don't vote against", x.division(0, 4), 0);
    }

    private void carried() {
        edge.says("a motion is carried with as much WEIGHT for it as that, or more.");
        for (int needed : new int[] {1, 2, 998, 999}) {
            OppositionInBaskets x = Due.ruled("feels 1;weighs 99;smooths 1;");
            x.set(1, 0, needed);
            for (int p = 0; p < 8; p++) {
                x.paper(0, 0, 0);
            }
            edge.is("792 where " + needed + " is NEEDED", x.division(0, 2), needed <= 792 ? 1 : 0);
        }
        OppositionInBaskets x = Due.ruled("feels 1;weighs 99;smooths 1;");
        for (int p = 0; p < 8; p++) {
            x.paper(0, 0, 0);
        }
        int[][] neededAndCarried = {{791, 1}, {792, 1}, {793, 0}};
        for (int[] n : neededAndCarried) {
            x.set(1, 0, n[0]);
            edge.is("792 where " + n[0] + " is NEEDED", x.division(7, 2), n[1]);
        }
    }

    /** Where two refusals are right at once, the one that the call's words name first is answered. */
    private void refusals() {
        edge.says("NONE is -1; NO, where a long is answered, -4611686018427387904.");
        edge.is("NONE", OppositionInBaskets.NONE, -1);
        edge.is("NO", OppositionInBaskets.NO, -4611686018427387904L);
        edge.says("BAD (-2: a number is none such or not as told), STATE (-3), FULL (-4)");
        edge.is("BAD", OppositionInBaskets.BAD, -2);
        edge.is("STATE", OppositionInBaskets.STATE, -3);
        edge.is("FULL", OppositionInBaskets.FULL, -4);
        edge.says("Refusals, the first that the call's words name; they change nothing");
        edge.leaves("paper(6, 0, 0): BAD; FULL", x -> x.paper(6, 0, 0), Edge.BAD, State.FULL);
        edge.leaves("feed(256): BAD; FULL", x -> x.feed(256), Edge.BAD, State.FULL);
        edge.leaves("tells(2, 5, 0): BAD; -11", x -> x.tells(2, 5, 0), Edge.BAD, State.SOME);
        edge.leaves("tells(2, 0, 8): BAD; -11", x -> x.tells(2, 0, 8), Edge.BAD, State.SOME);
        edge.leaves("sheet(4, 0, -1): BAD; -14", x -> x.sheet(4, 0, -1), Edge.BAD, State.SOME);
        edge.leaves("sheet(0, 3, -1): BAD; -14", x -> x.sheet(0, 3, -1), Edge.BAD, State.SOME);
        edge.leaves("cell(2, -1, 0): -11; -12", x -> x.cell(2, -1, 0), Edge.NOTHING, State.SOME);
        edge.leaves("copy(4, 0, 2, 0, 1): BAD; -11", x -> x.copy(4, 0, 2, 0, 1), Edge.BAD, State.SOME);
        edge.leaves("copy(2, 0, 4, 0, 1): BAD; -11", x -> x.copy(2, 0, 4, 0, 1), Edge.BAD, State.SOME);
        edge.leaves("copy(2, 0, 0, 0, 1): -11; -13", x -> x.copy(2, 0, 0, 0, 1), Edge.NOTHING, State.SOME);
        edge.leaves("copy(0, 0, 2, 0, -1): -11; -12", x -> x.copy(0, 0, 2, 0, -1), Edge.NOTHING, State.SOME);
        edge.leaves("copy(0, -1, 1, 0, 1): -13; -12", x -> x.copy(0, -1, 1, 0, 1), Edge.UNLIKE, State.SOME);
        edge.leaves("copy(0, 0, 1, 0, -1): -13; -12", x -> x.copy(0, 0, 1, 0, -1), Edge.UNLIKE, State.SOME);
        edge.leaves("papers(0, 3, 0, 1): BAD; -13", x -> x.papers(0, 3, 0, 1), Edge.BAD, State.SOME);
        edge.leaves("papers(2, 0, 0, 9): BAD; -11", x -> x.papers(2, 0, 0, 9), Edge.BAD, State.SOME);
        edge.leaves("papers(0, 0, -1, 9): BAD; -12", x -> x.papers(0, 0, -1, 9), Edge.BAD, State.SOME);
        edge.leaves("papers(0, 1, -1, 1): -13; -12", x -> x.papers(0, 1, -1, 1), Edge.UNLIKE, State.SOME);
        edge.leaves("papers(2, 1, -1, 1): -11; -12", x -> x.papers(2, 1, -1, 1), Edge.NOTHING, State.SOME);
        edge.leaves("taken(8, 6): BAD; -11", x -> x.taken(8, 6), Edge.BAD, State.SOME);
        edge.leaves("taken(0, 6): BAD; -13", x -> x.taken(0, 6), Edge.BAD, State.SOME);
    }

    private void lastCall() {
        edge.says("An object is used for at most 512 calls after it has been made");
        OppositionInBaskets x = new OppositionInBaskets();
        for (int call = 1; call <= 510; call++) {
            edge.is("call " + call, x.set(0, 0, call), call - 1);
        }
        edge.is("call 511", x.paper(5, 9, 9), 0);
        edge.is("call 512", x.taken(0, 0), 9);
    }
}
