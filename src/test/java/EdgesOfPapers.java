/** Edges of promises 1 to 5: a new object, set, paper, told, burn. */
final class EdgesOfPapers {
    private static final int[] LEAST = {0, 1, 0, -9, 0, 0, 0};
    private static final int[] GREATEST = {999, 999, 9, 9, 3, 99, 1};
    private final Edge edge;

    EdgesOfPapers(Edge edge) {
        this.edge = edge;
    }

    void all() {
        newObject();
        set();
        setRefuses();
        paper();
        paperRefuses();
        told();
        toldRefuses();
        burn();
        burnRefuses();
    }

    private void newObject() {
        edge.promise(1, "A new object");
        edge.says("No PAPERS.");
        OppositionInBaskets x = new OppositionInBaskets();
        for (int what : new int[] {0, 1, 2, 4, 5}) {
            edge.is("count(" + what + ")", x.count(what), 0);
        }
        for (int t = 0; t < 8; t++) {
            for (int what = 0; what < 6; what++) {
                edge.is("division(" + t + ", " + what + ")", x.division(t, what), 0);
            }
            edge.is("run(40, " + t + ")", x.run(40, t), 0);
            edge.is("stop(" + t + ", 0)", x.stop(t, 0), 0);
            edge.is("stop(" + t + ", 1)", x.stop(t, 1), 0);
        }
        for (int what = 0; what < 3; what++) {
            edge.is("topics(" + what + ")", x.topics(what), 0);
        }
        for (int p = -1; p < 9; p++) {
            edge.is("told(" + p + ", 7)", x.told(p, 7), Edge.NONE_SUCH);
            edge.is("set(2, " + p + ", 0)", x.set(2, p, 0), Edge.NONE_SUCH);
            edge.is("often(" + p + ")", x.often(p), Edge.BAD);
            edge.is("power(" + p + ", 0)", x.power(p, 0), Edge.NO);
            edge.is("torn(" + p + ")", x.torn(p), Edge.BAD);
            edge.is("goesWith(" + p + ", 0)", x.goesWith(p, 0), Edge.BAD);
            edge.is("tells(0, " + p + ", 0)", x.tells(0, p, 0), Edge.BAD);
            edge.is("film(0, " + p + ")", x.film(0, p), Edge.BAD);
            edge.is("taken(" + p + ", 0)", x.taken(p, 0), Edge.NOTHING);
        }
        edge.is("fewest(0)", x.fewest(0), Edge.NONE);
        edge.is("fewest(1)", x.fewest(1), Edge.NONE);
        edge.is("fewest(2)", x.fewest(2), 0);
        edge.is("run(40, 8)", x.run(40, 8), 0);
        edge.is("drawn(0, 99)", x.drawn(0, 99), 0);
        edge.is("back()", x.back(), Edge.STATE);
        edge.is("burn(0)", x.burn(0), 0);
        edge.is("day()", x.day(), 0);
        edge.is("image()", x.image(), 0);
        edge.is("the first PAPER", x.paper(0, 0, 0), 0);
    }

    private void set() {
        edge.promise(2, "set");
        edge.says("BURNT (6) of a PAPER becomes v: what it was.");
        for (int what = 0; what < 7; what++) {
            for (int p : new int[] {0, 7}) {
                OppositionInBaskets x = State.FULL.make();
                int was = x.told(p, what);
                edge.is("set(" + what + ", " + p + ", the least)", x.set(what, p, LEAST[what]), was);
                edge.is("set(" + what + ", " + p + ", the greatest)", x.set(what, p, GREATEST[what]), LEAST[what]);
                edge.is("set(" + what + ", " + p + ", the same)", x.set(what, p, GREATEST[what]), GREATEST[what]);
                edge.is("told(" + p + ", " + what + ")", x.told(p, what), GREATEST[what]);
                OppositionInBaskets y = State.FULL.make();
                for (int q = 0; q < 8; q++) {
                    for (int w = 0; w < 10; w++) {
                        boolean becomes = w == what && (what < 2 || q == p);
                        boolean byText = p == q && w > 7;
                        edge.is("told(" + q + ", " + w + ")", becomes || byText ? 0 : x.told(q, w), becomes || byText ? 0 : y.told(q, w));
                    }
                }
            }
        }
        edge.says("DAY (what 0; of does not matter), NEEDED (1; nor)");
        for (int of : new int[] {0, 1, -1, 8, Edge.MIN, Edge.MAX}) {
            OppositionInBaskets x = new OppositionInBaskets();
            edge.is("set(0, " + of + ", 999)", x.set(0, of, 999), 0);
            edge.is("set(1, " + of + ", 999)", x.set(1, of, 999), 10);
            edge.is("DAY", x.told(of, 0), 999);
            edge.is("NEEDED", x.told(of, 1), 999);
        }
    }

    private void setRefuses() {
        edge.says("-1000: what, of, v.");
        for (int what : new int[] {-1, 7, 8, Edge.MIN, Edge.MAX, Edge.MIN + 1, 256, 65536}) {
            edge.leaves("set(" + what + ", 0, 1)", x -> x.set(what, 0, 1), Edge.NONE_SUCH, State.values());
        }
        for (State s : State.values()) {
            for (int what = 2; what < 7; what++) {
                int w = what;
                for (int of : Edge.outside(0, s.papers - 1)) {
                    edge.leaves("set(" + w + ", " + of + ", " + GREATEST[w] + ")", x -> x.set(w, of, GREATEST[w]), Edge.NONE_SUCH, s);
                }
            }
        }
        for (int what = 0; what < 7; what++) {
            int w = what;
            for (int v : Edge.outside(LEAST[what], GREATEST[what])) {
                edge.leaves("set(" + w + ", 0, " + v + ")", x -> x.set(w, 0, v), Edge.NONE_SUCH, State.values());
                edge.leaves("set(" + w + ", 7, " + v + ")", x -> x.set(w, 7, v), Edge.NONE_SUCH, State.FULL);
            }
        }
    }

    private void paper() {
        edge.promise(3, "paper");
        edge.says("A PAPER: its number.");
        for (int[] is : new int[][] {{0, 0, -9}, {5, 9, 9}, {0, 9, -9}, {5, 0, 9}}) {
            OppositionInBaskets x = new OppositionInBaskets();
            for (int p = 0; p < 8; p++) {
                edge.is("paper " + p, x.paper(is[0], is[1], is[2]), p);
                edge.is("count(0)", x.count(0), p + 1);
                edge.is("its KIND", x.told(p, 7), is[0]);
                edge.is("its NUMBER", x.told(p, 2), is[1]);
                edge.is("its MOOD", x.told(p, 3), is[2]);
                edge.is("there is no next one", x.told(p + 1, 7), Edge.NONE_SUCH);
            }
        }
        OppositionInBaskets x = State.FULL.make();
        edge.is("back() makes room", x.back(), 2);
        for (int p = 2; p < 8; p++) {
            edge.is("paper " + p + " anew", x.paper(0, 0, 0), p);
        }
        edge.is("no room more", x.paper(0, 0, 0), Edge.FULL);
    }

    private void paperRefuses() {
        edge.says("A PAPER: its number. BAD; FULL.");
        for (int kind : Edge.outside(0, 5)) {
            edge.leaves("paper(" + kind + ", 0, 0)", x -> x.paper(kind, 0, 0), Edge.BAD, State.values());
        }
        for (int number : Edge.outside(0, 9)) {
            edge.leaves("paper(0, " + number + ", 0)", x -> x.paper(0, number, 0), Edge.BAD, State.values());
        }
        for (int mood : Edge.outside(-9, 9)) {
            edge.leaves("paper(0, 0, " + mood + ")", x -> x.paper(0, 0, mood), Edge.BAD, State.values());
        }
        for (int kind = 0; kind < 6; kind++) {
            int k = kind;
            edge.leaves("paper(" + k + ", 9, 9)", x -> x.paper(k, 9, 9), Edge.FULL, State.FULL);
        }
    }

    private void told() {
        edge.promise(4, "told");
        edge.says("What 0 .. 6 as of set(), 7 KIND, 8 WEIGHS, 9 SMOOTHS");
        OppositionInBaskets x = new OppositionInBaskets();
        for (int p = 0; p < 8; p++) {
            x.paper(p % 6, p, p - 4);
        }
        for (int p : new int[] {0, 5, 7}) {
            x.set(4, p, 3);
            int[] want = {0, 10, p, p - 4, 3, 50, 0, p % 6, p == 5 ? 3 : p == 7 ? 15 : 1, p == 5 ? 0 : 5};
            for (int what = 0; what < 10; what++) {
                edge.is("told(" + p + ", " + what + ")", x.told(p, what), want[what]);
            }
        }
        edge.says("10 .. 17 what it FEELS of TOPIC what less 10, 20 .. 27 its vote there (1, -1, 0; BURNT: 0).");
        OppositionInBaskets y = Due.ruled("feels topic-number;weighs 1;smooths 1;");
        y.paper(0, 0, 0);
        y.paper(0, 7, 0);
        y.paper(0, 3, 0);
        y.set(6, 2, 1);
        for (int t = 0; t < 8; t++) {
            edge.is("told(0, " + (10 + t) + ")", y.told(0, 10 + t), t);
            edge.is("told(1, " + (10 + t) + ")", y.told(1, 10 + t), t - 7);
            edge.is("told(2, " + (10 + t) + ") of a BURNT one", y.told(2, 10 + t), t - 3);
            edge.is("told(0, " + (20 + t) + ")", y.told(0, 20 + t), t > 0 ? 1 : 0);
            edge.is("told(1, " + (20 + t) + ")", y.told(1, 20 + t), t < 7 ? -1 : 0);
            edge.is("told(2, " + (20 + t) + ") of a BURNT one", y.told(2, 20 + t), 0);
        }
        for (int what = 0; what < 28; what++) {
            int w = what;
            edge.leaves("told(0, " + w + ")", z -> z.told(0, w), State.SOME);
        }
    }

    private void toldRefuses() {
        edge.says("-1000: none such.");
        for (int what : new int[] {-1, 18, 19, 28, 29, Edge.MIN, Edge.MIN + 9, Edge.MIN + 10, Edge.MIN + 20, Edge.MAX, 256, 65536}) {
            edge.leaves("told(0, " + what + ")", x -> x.told(0, what), Edge.NONE_SUCH, State.values());
            edge.leaves("told(7, " + what + ")", x -> x.told(7, what), Edge.NONE_SUCH, State.FULL);
        }
        for (State s : State.values()) {
            for (int what : new int[] {2, 3, 4, 5, 6, 7, 8, 9, 10, 17, 20, 27}) {
                for (int of : Edge.outside(0, s.papers - 1)) {
                    edge.leaves("told(" + of + ", " + what + ")", x -> x.told(of, what), Edge.NONE_SUCH, s);
                }
            }
        }
    }

    private void burn() {
        edge.promise(5, "burn");
        edge.says("All PAPERS of a DESK are BURNT, truly: how many weren't.");
        for (int desk = 0; desk < 4; desk++) {
            OppositionInBaskets x = new OppositionInBaskets();
            edge.is("nobody is there", x.burn(desk), 0);
            for (int p = 0; p < 8; p++) {
                x.paper(0, 0, 0);
                x.set(4, p, desk);
            }
            for (int other = 0; other < 4; other++) {
                edge.is("nobody is of DESK " + other, other == desk ? 0 : x.burn(other), 0);
            }
            edge.is("none was BURNT", x.count(1), 0);
            edge.is("all eight", x.burn(desk), 8);
            edge.is("all eight are", x.count(1), 8);
            edge.is("all eight were", x.burn(desk), 0);
            x.set(6, 7, 0);
            edge.is("the last one wasn't", x.burn(desk), 1);
            x.set(6, 0, 0);
            edge.is("the first one wasn't", x.burn(desk), 1);
        }
        OppositionInBaskets x = new OppositionInBaskets();
        for (int p = 0; p < 8; p++) {
            x.paper(0, 0, 0);
            x.set(4, p, p % 4);
        }
        for (int desk = 3; desk >= 0; desk--) {
            edge.is("burn(" + desk + ")", x.burn(desk), 2);
            for (int p = 0; p < 8; p++) {
                edge.is("BURNT " + p, x.told(p, 6), p % 4 >= desk ? 1 : 0);
            }
        }
    }

    private void burnRefuses() {
        edge.says("how many weren't. BAD.");
        for (int desk : Edge.outside(0, 3)) {
            edge.leaves("burn(" + desk + ")", x -> x.burn(desk), Edge.BAD, State.values());
        }
    }
}
