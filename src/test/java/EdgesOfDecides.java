/** Edges of promises 13 to 18: often, power, torn, fewest, stop, goesWith. */
final class EdgesOfDecides {
    private static final String PLAIN = "feels mood;weighs number;smooths 5;";
    private final Edge edge;

    EdgesOfDecides(Edge edge) {
        this.edge = edge;
    }

    void all() {
        often();
        oftenRefuses();
        power();
        powerRefuses();
        torn();
        tornRefuses();
        fewest();
        fewestRefuses();
        stop();
        stopRefuses();
        goesWith();
        goesWithBurnt();
        goesWithRefuses();
    }

    /** Papers by their weights; those below 0 vote against. */
    private static OppositionInBaskets chamber(int needed, int... weights) {
        OppositionInBaskets x = Due.ruled(PLAIN);
        for (int w : weights) {
            x.paper(0, Math.abs(w), w < 0 ? -1 : 1);
        }
        x.set(1, 0, needed);
        return x;
    }

    private static OppositionInBaskets eightOf(int weight, int needed) {
        OppositionInBaskets x = Due.ruled("feels 1;weighs " + weight + ";smooths 5;");
        for (int p = 0; p < 8; p++) {
            x.paper(0, 0, 0);
        }
        x.set(1, 0, needed);
        return x;
    }

    private void often() {
        edge.promise(13, "often");
        edge.says("COALITIONS: of all sets of PAPERS that aren't BURNT (none, too): one WINS, if it WEIGHS NEEDED or more, together.");
        edge.is("one alone of just as much as is NEEDED", chamber(5, 5).often(0), 1);
        edge.is("one alone of 1 less", chamber(6, 5).often(0), 0);
        edge.is("one alone of 1 more", chamber(4, 5).often(0), 1);
        edge.is("one without WEIGHT", chamber(1, 0).often(0), 0);
        edge.is("two who WIN together", chamber(9, 5, 4).often(1), 1);
        edge.is("two who don't by 1", chamber(10, 5, 4).often(1), 0);
        edge.says("DECIDES in one: who is in it, if it WINS, and doesn't without that one.");
        edge.is("without one 5 are left of 5", chamber(5, 5, 1).often(1), 0);
        edge.is("without one 4 are left of 5", chamber(5, 4, 1).often(1), 1);
        edge.says("OFTEN: in how many one DECIDES.");
        OppositionInBaskets x = chamber(9, 0, 0, 0, 0, 0, 0, 0, 9);
        edge.is("the last of eight, in all that have it", x.often(7), 128);
        edge.is("the first of eight", x.often(0), 0);
        OppositionInBaskets y = chamber(1, 1, 0, 0, 0, 0, 0, 0, 0);
        edge.is("the first of eight, in all that have it", y.often(0), 128);
        OppositionInBaskets z = eightOf(99, 792);
        for (int p = 0; p < 8; p++) {
            edge.is("in all together alone", z.often(p), 1);
        }
        z.set(1, 0, 793);
        edge.is("in none", z.often(7), 0);
        z.set(1, 0, 99);
        edge.is("alone", z.often(0), 1);
        z.set(1, 0, 100);
        edge.is("with one other", z.often(0), 7);
        z.set(6, 7, 1);
        edge.is("with one other that isn't BURNT", z.often(0), 6);
    }

    private void oftenRefuses() {
        edge.says("OFTEN. BAD: no such PAPER, or it is BURNT.");
        for (State s : State.values()) {
            for (int p : Edge.outside(0, s.papers - 1)) {
                edge.leaves("often(" + p + ")", x -> x.often(p), Edge.BAD, s);
            }
        }
        edge.leaves("often(3) of a BURNT one", x -> x.often(3), Edge.BAD, State.SOME);
        for (int p = 0; p < 3; p++) {
            int q = p;
            edge.leaves("often(" + q + ") of a BURNT one", x -> x.often(q), Edge.BAD, State.TEXTS);
        }
        edge.leaves("often(0)", x -> x.often(0), State.SOME);
        edge.leaves("often(7)", x -> x.often(7), State.FULL);
    }

    private void fraction(String of, OppositionInBaskets x, int paper, long above, long below) {
        edge.is(of + ": power(" + paper + ", 0)", x.power(paper, 0), above);
        edge.is(of + ": power(" + paper + ", 1)", x.power(paper, 1), below);
    }

    private void power() {
        edge.promise(14, "power");
        edge.says("by all orders: part 0 above, 1 below the line, in lowest terms.");
        fraction("one alone", chamber(5, 5), 0, 1, 1);
        fraction("one who never is", chamber(5, 5, 4), 1, 0, 1);
        fraction("one who always is", chamber(5, 5, 4), 0, 1, 1);
        fraction("two alike", chamber(5, 5, 5), 0, 1, 2);
        fraction("two who need one another", chamber(9, 5, 4), 1, 1, 2);
        fraction("one without WEIGHT", chamber(1, 0, 1), 0, 0, 1);
        for (int needed : new int[] {1, 99, 100, 792}) {
            for (int p : new int[] {0, 7}) {
                fraction("eight alike, " + needed, eightOf(99, needed), p, 1, 8);
            }
        }
        fraction("the last of eight", chamber(9, 0, 0, 0, 0, 0, 0, 0, 9), 7, 1, 1);
        fraction("the first of eight", chamber(9, 0, 0, 0, 0, 0, 0, 0, 9), 0, 0, 1);
        // the heavy one is the first with whom they win unless it is the first or the last of eight
        fraction("all but the first and the last", chamber(7, 6, 1, 1, 1, 1, 1, 1, 1), 0, 3, 4);
        fraction("the others in what is left", chamber(7, 6, 1, 1, 1, 1, 1, 1, 1), 7, 1, 28);
        OppositionInBaskets x = chamber(2, 1, 1, 1);
        x.set(6, 1, 1);
        fraction("of orders without a BURNT one", x, 2, 1, 2);
    }

    private void powerRefuses() {
        edge.says("POWER. NO: no such PAPER, it is BURNT, part; no order WINS.");
        for (State s : State.values()) {
            for (int p : Edge.outside(0, s.papers - 1)) {
                edge.leaves("power(" + p + ", 0)", x -> x.power(p, 0), Edge.NO, s);
                edge.leaves("power(" + p + ", 1)", x -> x.power(p, 1), Edge.NO, s);
            }
        }
        for (int part : Edge.outside(0, 1)) {
            edge.leaves("power(0, " + part + ")", x -> x.power(0, part), Edge.NO, State.values());
        }
        for (int part = 0; part < 2; part++) {
            int which = part;
            edge.leaves("power(3, " + which + ") of a BURNT one", x -> x.power(3, which), Edge.NO, State.SOME);
            edge.leaves("power(0, " + which + ") of a BURNT one", x -> x.power(0, which), Edge.NO, State.TEXTS);
            edge.leaves("power(7, " + which + ")", x -> x.power(7, which), State.FULL);
            edge.is("no order WINS, by 1", chamber(10, 5, 4).power(0, which), Edge.NO);
            edge.is("no order WINS, without WEIGHT", chamber(1, 0, 0).power(1, which), Edge.NO);
            edge.is("no order WINS, by 1, of eight", eightOf(99, 793).power(7, which), Edge.NO);
            OppositionInBaskets x = chamber(9, 5, 4);
            x.set(6, 0, 1);
            edge.is("no order WINS without a BURNT one", x.power(1, which), Edge.NO);
        }
    }

    private void torn() {
        edge.promise(15, "torn");
        edge.says("TORN (a PAPER): were it two, one of half (cut) its WEIGHT, one of the rest, who decide apart: OFTEN of both, together.");
        edge.is("0 is 0 and 0", chamber(1, 0).torn(0), 0);
        // 0 and 1: the 1 decides with the 0 and without it
        edge.is("1 is 0 and 1", chamber(1, 1).torn(0), 2);
        edge.is("2 is 1 and 1, of 1", chamber(1, 2).torn(0), 2);
        edge.is("2 is 1 and 1, of 2", chamber(2, 2).torn(0), 2);
        edge.is("2 is 1 and 1, of 3", chamber(3, 2).torn(0), 0);
        // 3 and 4: of 4 the 4 decides with the 3 and without it
        edge.is("7 is 3 and 4, of 3", chamber(3, 7).torn(0), 2);
        edge.is("7 is 3 and 4, of 4", chamber(4, 7).torn(0), 2);
        edge.is("7 is 3 and 4, of 5", chamber(5, 7).torn(0), 2);
        edge.is("7 is 3 and 4, of 7", chamber(7, 7).torn(0), 2);
        edge.is("7 is 3 and 4, of 8", chamber(8, 7).torn(0), 0);
        edge.is("7 is 3 and 4, with 1, of 4", chamber(4, 7, 1).torn(0), 4);
        edge.is("6 is 3 and 3, with 1, of 4", chamber(4, 6, 1).torn(0), 4);
        edge.is("the halves weigh more together than is NEEDED", chamber(1, 2, 0, 0, 0, 0, 0, 0, 0).torn(0), 256);
        edge.is("the last of eight", chamber(9, 0, 0, 0, 0, 0, 0, 0, 9).torn(7), 256);
        edge.is("without WEIGHT, of eight", chamber(9, 0, 0, 0, 0, 0, 0, 0, 9).torn(0), 0);
        edge.is("49 and 50 of 792", eightOf(99, 792).torn(7), 2);
        edge.is("49 and 50 of 743", eightOf(99, 743).torn(0), 2);
        edge.is("49 and 50 of 742", eightOf(99, 742).torn(0), 2);
        edge.is("49 and 50 of 793", eightOf(99, 793).torn(0), 0);
    }

    private void tornRefuses() {
        edge.says("TORN. BAD: no such PAPER, or it is BURNT.");
        for (State s : State.values()) {
            for (int p : Edge.outside(0, s.papers - 1)) {
                edge.leaves("torn(" + p + ")", x -> x.torn(p), Edge.BAD, s);
            }
        }
        edge.leaves("torn(3) of a BURNT one", x -> x.torn(3), Edge.BAD, State.SOME);
        edge.leaves("torn(2) of a BURNT one", x -> x.torn(2), Edge.BAD, State.TEXTS);
        edge.leaves("torn(0)", x -> x.torn(0), State.SOME);
        edge.leaves("torn(7)", x -> x.torn(7), State.FULL);
    }

    private void fewest(String of, OppositionInBaskets x, int... want) {
        for (int what = 0; what < 3; what++) {
            edge.is(of + ": fewest(" + what + ")", x.fewest(what), want[what]);
        }
    }

    private void fewest() {
        edge.promise(16, "fewest");
        edge.says("FEWEST: the fewest PAPERS that aren't BURNT which, together, WIN; of so many the least as bits; NONE.");
        fewest("nobody", new OppositionInBaskets(), -1, -1, 0);
        fewest("one of just as much as is NEEDED", chamber(5, 5), 1, 1, 1);
        fewest("one of 1 less", chamber(6, 5), -1, -1, 0);
        fewest("one without WEIGHT", chamber(1, 0), -1, -1, 0);
        fewest("all eight", eightOf(99, 792), 255, 8, 1);
        fewest("all eight don't, by 1", eightOf(99, 793), -1, -1, 0);
        fewest("each of eight, but not none", eightOf(99, 1), 1, 1, 255);
        fewest("the last of eight", chamber(9, 1, 1, 1, 1, 1, 1, 1, 9), 128, 1, 128);
        fewest("two, the least as bits", chamber(6, 1, 3, 3, 3), 6, 2, 8);
        fewest("one that is heavy is fewer than two that are less as bits", chamber(6, 3, 3, 6), 4, 1, 5);
        OppositionInBaskets x = eightOf(1, 1);
        x.burn(0);
        fewest("all are BURNT", x, -1, -1, 0);
        x.set(6, 7, 0);
        fewest("all but the last are BURNT", x, 128, 1, 1);
        edge.says("how many COALITIONS WIN (2)");
        fewest("seven or more of eight", eightOf(1, 7), 127, 7, 9);
    }

    private void fewestRefuses() {
        edge.says("how many COALITIONS WIN (2). BAD.");
        for (int what : Edge.outside(0, 2)) {
            edge.leaves("fewest(" + what + ")", x -> x.fewest(what), Edge.BAD, State.values());
        }
        for (int what = 0; what < 3; what++) {
            int w = what;
            edge.leaves("fewest(" + w + ")", x -> x.fewest(w), State.SOME);
            edge.leaves("fewest(" + w + ")", x -> x.fewest(w), State.FULL);
        }
    }

    private void stop(String of, OppositionInBaskets x, int bits, int many) {
        for (int t : new int[] {0, 7}) {
            edge.is(of + ": stop(" + t + ", 0)", x.stop(t, 0), bits);
            edge.is(of + ": stop(" + t + ", 1)", x.stop(t, 1), many);
        }
    }

    private void stop() {
        edge.promise(17, "stop");
        edge.says("STOP (a TOPIC): the fewest PAPERS (bits) by whose being BURNT it would not be CARRIED; of like ones the least as bits "
            + "(0: it isn't).");
        stop("nobody", new OppositionInBaskets(), 0, 0);
        stop("it isn't, by 1", chamber(6, 5), 0, 0);
        stop("it is, by just as much", chamber(5, 5), 1, 1);
        stop("it isn't: as many are against", chamber(1, 5, -5), 0, 0);
        stop("5 are left of 5", chamber(5, 5, 1), 1, 1);
        stop("the least as bits of two", chamber(6, 5, 1), 1, 1);
        stop("the lighter one has less bits, but is not enough", chamber(5, 1, 5), 2, 1);
        stop("3 to 3 are left", chamber(1, 3, 3, -3), 1, 1);
        stop("3 to 2 are left", chamber(1, 3, 3, -2), 3, 2);
        stop("two of the least bits", chamber(4, 3, 3, 3), 3, 2);
        stop("all eight must be", eightOf(99, 1), 255, 8);
        stop("one is enough", eightOf(99, 792), 1, 1);
        stop("one is enough", eightOf(99, 694), 1, 1);
        stop("two are", eightOf(99, 693), 3, 2);
        stop("the last of eight alone", chamber(9, 0, 0, 0, 0, 0, 0, 0, 9), 128, 1);
        OppositionInBaskets x = eightOf(1, 1);
        x.set(6, 0, 1);
        stop("a BURNT one is none of them", x, 254, 7);
        x.burn(0);
        stop("all are BURNT", x, 0, 0);
        OppositionInBaskets y = eightOf(1, 1);
        y.set(6, 7, 1);
        stop("the last is BURNT", y, 127, 7);
    }

    private void stopRefuses() {
        edge.says("STOP (what 0; bits), how many (1). BAD.");
        for (int topic : Edge.outside(0, 7)) {
            edge.leaves("stop(" + topic + ", 0)", x -> x.stop(topic, 0), Edge.BAD, State.values());
            edge.leaves("stop(" + topic + ", 1)", x -> x.stop(topic, 1), Edge.BAD, State.values());
        }
        for (int what : Edge.outside(0, 1)) {
            edge.leaves("stop(0, " + what + ")", x -> x.stop(0, what), Edge.BAD, State.values());
            edge.leaves("stop(7, " + what + ")", x -> x.stop(7, what), Edge.BAD, State.values());
        }
        for (int t = 0; t < 8; t++) {
            int topic = t;
            edge.leaves("stop(" + t + ", 0)", x -> x.stop(topic, 0), State.SOME);
            edge.leaves("stop(" + t + ", 1)", x -> x.stop(topic, 1), State.FULL);
        }
    }

    private void with(String of, OppositionInBaskets x, int paper, int other, int many) {
        edge.is(of + ": goesWith(" + paper + ", 0)", x.goesWith(paper, 0), other);
        edge.is(of + ": goesWith(" + paper + ", 1)", x.goesWith(paper, 1), many);
    }

    private void goesWith() {
        edge.promise(18, "goesWith");
        edge.says("GOES WITH (a PAPER): the other one, not BURNT, that votes alike on most TOPICS (also not at all); "
            + "of like ones the first; NONE.");
        with("one alone", chamber(1, 5), 0, -1, -1);
        OppositionInBaskets x = chamber(1, 5, 5);
        x.set(6, 1, 1);
        with("the only other one is BURNT", x, 0, -1, -1);
        with("two alike", chamber(1, 5, 5), 0, 1, 8);
        with("two alike", chamber(1, 5, 5), 1, 0, 8);
        with("two who never are", chamber(1, 5, -5), 0, 1, 0);
        with("all alike: the first", chamber(1, 1, 1, 1, 1, 1, 1, 1, 1), 7, 0, 8);
        with("all alike: the first other one", chamber(1, 1, 1, 1, 1, 1, 1, 1, 1), 0, 1, 8);
        with("the last", chamber(1, 1, -1, -1, -1, -1, -1, -1, 1), 0, 7, 8);
        with("none is: the first", chamber(1, 1, -1, -1, -1, -1, -1, -1, -1), 0, 1, 0);
        // who votes for the topics below its number, and not at all on the others
        OppositionInBaskets y = Due.ruled("feels topic<number;weighs 1;smooths 1;");
        for (int number : new int[] {0, 8, 7, 1, 5, 3}) {
            y.paper(0, number, 0);
        }
        with("0: 1 on the last seven", y, 0, 3, 7);
        with("8: 7 on the first seven", y, 1, 2, 7);
        with("7: 8 on the first seven", y, 2, 1, 7);
        with("5: 7 and 3 are alike, the first", y, 4, 2, 6);
        y.set(6, 2, 1);
        with("5: 3, as 7 is BURNT", y, 4, 5, 6);
        OppositionInBaskets z = Due.ruled("feels 0;weighs 1;smooths 1;");
        z.paper(0, 0, 0);
        z.paper(0, 0, 0);
        with("two who never vote", z, 1, 0, 8);
    }

    private void goesWithBurnt() {
        edge.says("on how many TOPICS (1; NONE). BAD: no such PAPER, what.");
        OppositionInBaskets x = chamber(1, 1, 1, 0);
        x.set(3, 2, 0);
        x.set(6, 0, 1);
        with("a BURNT one doesn't vote", x, 0, 2, 8);
        x.set(6, 2, 1);
        with("a BURNT one, and one who votes always", x, 0, 1, 0);
        x.set(6, 1, 1);
        with("all are BURNT", x, 0, -1, -1);
        with("all are BURNT", x, 2, -1, -1);
    }

    private void goesWithRefuses() {
        edge.says("GOES WITH (what 0; NONE), on how many TOPICS (1; NONE). BAD: no such PAPER, what.");
        for (State s : State.values()) {
            for (int p : Edge.outside(0, s.papers - 1)) {
                edge.leaves("goesWith(" + p + ", 0)", x -> x.goesWith(p, 0), Edge.BAD, s);
                edge.leaves("goesWith(" + p + ", 1)", x -> x.goesWith(p, 1), Edge.BAD, s);
            }
        }
        for (int what : Edge.outside(0, 1)) {
            edge.leaves("goesWith(0, " + what + ")", x -> x.goesWith(0, what), Edge.BAD, State.values());
            edge.leaves("goesWith(7, " + what + ")", x -> x.goesWith(7, what), Edge.BAD, State.FULL);
        }
        for (State s : new State[] {State.SOME, State.FULL, State.TEXTS}) {
            edge.leaves("goesWith(0, 0)", x -> x.goesWith(0, 0), s);
            edge.leaves("goesWith(2, 1)", x -> x.goesWith(2, 1), s);
        }
    }
}
