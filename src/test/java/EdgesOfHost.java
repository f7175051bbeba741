/** Edges of promises 26 to 30: sheet, cell, copy, papers, taken. */
final class EdgesOfHost {
    private static final int MIN = Edge.MIN, MAX = Edge.MAX;
    private final Edge edge;

    EdgesOfHost(Edge edge) {
        this.edge = edge;
    }

    void all() {
        sheet();
        sheetRefuses();
        cell();
        cellRefuses();
        copy();
        copyAsTheyWere();
        copyRefuses();
        copyOutside();
        papers();
        papersWhenFull();
        papersRefuses();
        papersOutside();
        taken();
        takenRefuses();
    }

    /** The three numbers from one on are the KIND, NUMBER and MOOD of a PAPER that comes. */
    private void reads(OppositionInBaskets x, int sheet, int sort, int from, int kind, int number, int mood) {
        int next = x.count(0);
        edge.is("papers(" + sheet + ", " + sort + ", " + from + ", 1)", x.papers(sheet, sort, from, 1), 1);
        edge.is("KIND", x.told(next, 7), kind);
        edge.is("NUMBER", x.told(next, 2), number);
        edge.is("MOOD", x.told(next, 3), mood);
    }

    private void sheet() {
        edge.promise(26, "sheet");
        edge.says("A SHEET becomes a row of n of a sort, all 0, or missing (sort -1: n does not matter): 1.");
        for (int sheet : new int[] {0, 3}) {
            for (int sort = 0; sort < 3; sort++) {
                for (int n : new int[] {0, 1, 2, 39, 40}) {
                    OppositionInBaskets x = State.FULL.make();
                    edge.is("sheet(" + sheet + ", " + sort + ", " + n + ")", x.sheet(sheet, sort, n), 1);
                    edge.is("its last", x.cell(sheet, n - 1, 1), n > 0 ? 1 : Edge.OUTSIDE);
                    edge.is("none behind it", x.cell(sheet, n, 1), Edge.OUTSIDE);
                    for (int other = 0; other < 3; other++) {
                        edge.is("taken for sort " + other, x.papers(sheet, other, 0, 0), other == sort ? 0 : Edge.UNLIKE);
                    }
                }
                OppositionInBaskets y = new OppositionInBaskets();
                y.paper(0, 0, 0);
                State.write(y, sheet, sort, 9, 9, 9, 9, 9, 9, 9, 9, 9);
                y.sheet(sheet, sort, 8);
                edge.is("all are 0", y.tells(sheet, 0, 0), Edge.NONE);
            }
            for (int n : new int[] {0, 1, 40, 41, -1, MIN, MAX}) {
                OppositionInBaskets x = State.FULL.make();
                edge.is("sheet(" + sheet + ", -1, " + n + ")", x.sheet(sheet, -1, n), 1);
                edge.is("it is missing", x.cell(sheet, 0, 0), Edge.NOTHING);
                edge.is("it is missing", x.tells(sheet, 0, 0), Edge.NOTHING);
                edge.is("the others aren't", x.cell(3 - sheet, 39, 0), 1);
                edge.is("sheet(" + sheet + ", -1, " + n + ") again", x.sheet(sheet, -1, n), 1);
            }
        }
    }

    private void sheetRefuses() {
        edge.says("BAD: no such SHEET, sort; n above 40; -14.");
        for (int sheet : Edge.outside(0, 3)) {
            edge.leaves("sheet(" + sheet + ", 0, 1)", x -> x.sheet(sheet, 0, 1), Edge.BAD, State.values());
            edge.leaves("sheet(" + sheet + ", -1, 1)", x -> x.sheet(sheet, -1, 1), Edge.BAD, State.values());
            edge.leaves("sheet(" + sheet + ", 0, -1)", x -> x.sheet(sheet, 0, -1), Edge.BAD, State.values());
        }
        for (int sort : Edge.outside(-1, 2)) {
            edge.leaves("sheet(0, " + sort + ", 1)", x -> x.sheet(0, sort, 1), Edge.BAD, State.values());
            edge.leaves("sheet(3, " + sort + ", -1)", x -> x.sheet(3, sort, -1), Edge.BAD, State.values());
        }
        for (int sheet = 0; sheet < 4; sheet++) {
            int s = sheet;
            for (int sort = 0; sort < 3; sort++) {
                int k = sort;
                for (int n : new int[] {41, 42, 256, 65536, MAX - 1, MAX}) {
                    edge.leaves("sheet(" + s + ", " + k + ", " + n + ")", x -> x.sheet(s, k, n), Edge.BAD, State.values());
                }
                for (int n : new int[] {-1, -2, -40, -256, MIN, MIN + 1}) {
                    edge.leaves("sheet(" + s + ", " + k + ", " + n + ")", x -> x.sheet(s, k, n), Edge.BELOW, State.values());
                }
            }
        }
    }

    private void cell() {
        edge.promise(27, "cell");
        edge.says("Item i of a SHEET becomes v (of bytes, shorts its lowest 8, 16 bits): 1.");
        int[] written = {9, -9, 256 + 9, 256 - 9, 65536 + 9, 65536 - 9, MIN + 9, MAX - 8, 247, -247, 0x7FFFFF09, 0x12340009};
        for (int sort = 0; sort < 3; sort++) {
            for (int v : written) {
                int kept = sort == 0 ? (v << 24) >> 24 : sort == 1 ? (v << 16) >> 16 : v;
                OppositionInBaskets x = new OppositionInBaskets();
                x.sheet(3, sort, 40);
                edge.is("cell(3, 39, " + v + ")", x.cell(3, 39, v), 1);
                boolean mood = kept >= -9 && kept <= 9;
                edge.is("a MOOD of sort " + sort + " that was " + v, x.papers(3, sort, 37, 1), mood ? 1 : 0);
                edge.is("it is", x.told(0, 3), mood ? kept : Edge.NONE_SUCH);
            }
        }
        OppositionInBaskets x = new OppositionInBaskets();
        State.write(x, 0, 0, 128, 127, 0);
        edge.is("a byte of 128 is below 0", x.papers(0, 0, 0, 1), 0);
        x.cell(0, 0, 0);
        edge.is("a byte of 127", x.papers(0, 0, 0, 1), 0);
        x.cell(0, 1, 256);
        edge.is("a byte of 256 is 0", x.papers(0, 0, 0, 1), 1);
        State.write(x, 1, 1, 65536, 65536, -65536);
        edge.is("shorts of 65536 are 0", x.papers(1, 1, 0, 1), 1);
        State.write(x, 1, 1, 256, 0, 0);
        edge.is("a short of 256 is not", x.papers(1, 1, 0, 1), 0);
        State.write(x, 1, 2, 65536, 0, 0);
        edge.is("an int of 65536 is not", x.papers(1, 2, 0, 1), 0);
        State.write(x, 2, 2, 1, 2, 3);
        edge.is("the first", x.cell(2, 0, 4), 1);
        reads(x, 2, 2, 0, 4, 2, 3);
        edge.is("the last", x.cell(2, 2, 5), 1);
        reads(x, 2, 2, 0, 4, 2, 5);
    }

    private void cellRefuses() {
        edge.says("BAD: no such SHEET; -11; -12.");
        for (int sheet : Edge.outside(0, 3)) {
            edge.leaves("cell(" + sheet + ", 0, 5)", x -> x.cell(sheet, 0, 5), Edge.BAD, State.values());
            edge.leaves("cell(" + sheet + ", -1, 5)", x -> x.cell(sheet, -1, 5), Edge.BAD, State.values());
        }
        for (int i : new int[] {0, -1, 1, 39, 40, MIN, MAX}) {
            edge.leaves("cell(2, " + i + ", 5)", x -> x.cell(2, i, 5), Edge.NOTHING, State.NEW, State.SOME);
            edge.leaves("cell(3, " + i + ", 5)", x -> x.cell(3, i, 5), Edge.NOTHING, State.NEW, State.TEXTS);
        }
        for (int i : Edge.outside(0, 5)) {
            edge.leaves("cell(1, " + i + ", 5) of six", x -> x.cell(1, i, 5), Edge.OUTSIDE, State.SOME);
        }
        for (int sheet = 0; sheet < 4; sheet++) {
            int s = sheet;
            for (int i : Edge.outside(0, 39)) {
                edge.leaves("cell(" + s + ", " + i + ", 5) of 40", x -> x.cell(s, i, 5), Edge.OUTSIDE, State.FULL);
            }
        }
        for (int i : new int[] {0, -1, 1, MIN, MAX}) {
            edge.leaves("cell(0, " + i + ", 5) of none", x -> x.cell(0, i, 5), Edge.OUTSIDE, State.TEXTS);
        }
    }

    private void copy() {
        edge.promise(28, "copy");
        edge.says("n numbers of a SHEET, from item i on, come to another one's item j on (as they were): n.");
        OppositionInBaskets x = new OppositionInBaskets();
        for (int sort = 0; sort < 3; sort++) {
            State.write(x, 0, sort, 1, 2, 3, 4, 5);
            x.sheet(1, sort, 4);
            edge.is("none", x.copy(0, 0, 1, 0, 0), 0);
            edge.is("none from behind the last to behind the last", x.copy(0, 5, 1, 4, 0), 0);
            edge.is("all of the lesser one", x.copy(0, 1, 1, 0, 4), 4);
            edge.is("the last to the first", x.copy(0, 4, 1, 0, 1), 1);
            edge.is("the first to the last", x.copy(0, 0, 1, 3, 1), 1);
            x.image();
            reads(x, 1, sort, 0, 5, 3, 4);
            reads(x, 1, sort, 1, 3, 4, 1);
            reads(x, 0, sort, 0, 1, 2, 3);
            x.back();
        }
        OppositionInBaskets y = new OppositionInBaskets();
        y.sheet(0, 2, 40);
        y.sheet(3, 2, 40);
        y.cell(0, 39, 9);
        edge.is("all 40", y.copy(0, 0, 3, 0, 40), 40);
        reads(y, 3, 2, 37, 0, 0, 9);
        y.sheet(1, 2, 0);
        edge.is("none of none", y.copy(1, 0, 1, 0, 0), 0);
        edge.is("none of none to behind the last", y.copy(1, 0, 3, 40, 0), 0);
        // numbers stay those of the row that they came to, whatever becomes of the other one
        y.sheet(0, -1, 0);
        reads(y, 3, 2, 37, 0, 0, 9);
    }

    private void copyAsTheyWere() {
        edge.says("(as they were): n.");
        for (int sort = 0; sort < 3; sort++) {
            OppositionInBaskets x = new OppositionInBaskets();
            State.write(x, 2, sort, 0, 1, 2, 3, 4, 5, 6);
            edge.is("to behind in the same one", x.copy(2, 0, 2, 1, 6), 6);
            reads(x, 2, sort, 0, 0, 0, 1);
            reads(x, 2, sort, 4, 3, 4, 5);
            State.write(x, 2, sort, 0, 1, 2, 3, 4, 5, 6);
            edge.is("to ahead in the same one", x.copy(2, 1, 2, 0, 6), 6);
            reads(x, 2, sort, 0, 1, 2, 3);
            reads(x, 2, sort, 4, 5, 6, 6);
            edge.is("to its own place", x.copy(2, 0, 2, 0, 7), 7);
            reads(x, 2, sort, 4, 5, 6, 6);
        }
    }

    private void copyRefuses() {
        edge.says("BAD: no such SHEET; -11; -13: they are of unlike sorts; -12 (also with n below 0).");
        for (int sheet : Edge.outside(0, 3)) {
            edge.leaves("copy(" + sheet + ", 0, 0, 0, 1)", x -> x.copy(sheet, 0, 0, 0, 1), Edge.BAD, State.values());
            edge.leaves("copy(0, 0, " + sheet + ", 0, 1)", x -> x.copy(0, 0, sheet, 0, 1), Edge.BAD, State.values());
            edge.leaves("copy(" + sheet + ", -1, 2, -1, -1)", x -> x.copy(sheet, -1, 2, -1, -1), Edge.BAD, State.values());
            edge.leaves("copy(3, -1, " + sheet + ", -1, -1)", x -> x.copy(3, -1, sheet, -1, -1), Edge.BAD, State.values());
            edge.leaves("copy(" + sheet + ", 0, " + sheet + ", 0, 0)", x -> x.copy(sheet, 0, sheet, 0, 0), Edge.BAD, State.values());
        }
        for (int n : new int[] {0, 1, -1, MIN, MAX}) {
            edge.leaves("copy(2, 0, 0, 0, " + n + ")", x -> x.copy(2, 0, 0, 0, n), Edge.NOTHING, State.NEW, State.SOME);
            edge.leaves("copy(0, 0, 2, 0, " + n + ")", x -> x.copy(0, 0, 2, 0, n), Edge.NOTHING, State.NEW, State.SOME);
            edge.leaves("copy(2, -1, 2, -1, " + n + ")", x -> x.copy(2, -1, 2, -1, n), Edge.NOTHING, State.NEW, State.SOME);
            edge.leaves("copy(0, 0, 1, 0, " + n + ")", x -> x.copy(0, 0, 1, 0, n), Edge.UNLIKE, State.SOME, State.FULL, State.TEXTS);
            edge.leaves("copy(1, 0, 0, 0, " + n + ")", x -> x.copy(1, 0, 0, 0, n), Edge.UNLIKE, State.SOME, State.FULL, State.TEXTS);
            edge.leaves("copy(1, -1, 2, 99, " + n + ")", x -> x.copy(1, -1, 2, 99, n), Edge.UNLIKE, State.FULL, State.TEXTS);
            edge.leaves("copy(2, MAX, 0, MIN, " + n + ")", x -> x.copy(2, MAX, 0, MIN, n), Edge.UNLIKE, State.FULL, State.TEXTS);
        }
    }

    private void copyOutside() {
        edge.says("-12 (also with n below 0).");
        // of 40 to 40 in the full state, where sheets 0 and 3 are alike
        int[][] outside = {{0, 0, -1}, {0, 0, MIN}, {1, 1, -1}, {-1, 0, 1}, {0, -1, 1}, {-1, 0, 0}, {0, -1, 0}, {41, 0, 0}, {0, 41, 0},
            {40, 0, 1}, {0, 40, 1}, {0, 0, 41}, {1, 0, 40}, {0, 1, 40}, {39, 0, 2}, {0, 39, 2}, {MAX, 0, 1}, {0, MAX, 1}, {1, 0, MAX},
            {0, 1, MAX}, {MAX, MAX, MAX}, {MIN, 0, 0}, {0, MIN, 0}, {MIN, MIN, MIN}, {MAX, 0, 0}, {0, MAX, 0}, {MIN, 0, MIN},
            {MAX, 0, MIN}, {40, 40, -1}, {-1, -1, 41}, {MIN, 0, MAX}, {MAX, 0, 2}};
        for (int[] o : outside) {
            String call = ", " + o[0] + ", .., " + o[1] + ", " + o[2] + ")";
            edge.leaves("copy(0" + call + " to 3", x -> x.copy(0, o[0], 3, o[1], o[2]), Edge.OUTSIDE, State.FULL);
            edge.leaves("copy(3" + call + " to 3", x -> x.copy(3, o[0], 3, o[1], o[2]), Edge.OUTSIDE, State.FULL);
        }
        for (int[] o : new int[][] {{0, 0, 1}, {1, 0, 0}, {0, 1, 0}, {0, 0, -1}, {-1, -1, 0}}) {
            edge.leaves("copy of an empty one", x -> x.copy(0, o[0], 0, o[1], o[2]), Edge.OUTSIDE, State.TEXTS);
        }
        OppositionInBaskets x = new OppositionInBaskets();
        x.sheet(0, 1, 40);
        x.sheet(1, 1, 3);
        edge.is("too many for the lesser one", x.copy(0, 0, 1, 0, 4), Edge.OUTSIDE);
        edge.is("more than the lesser one has", x.copy(1, 0, 0, 0, 4), Edge.OUTSIDE);
        edge.is("just as many", x.copy(0, 37, 1, 0, 3), 3);
        edge.is("just as many", x.copy(1, 0, 0, 37, 3), 3);
        edge.is("one beyond", x.copy(1, 0, 0, 38, 3), Edge.OUTSIDE);
        edge.is("one beyond", x.copy(0, 38, 1, 0, 3), Edge.OUTSIDE);
    }

    private void papers() {
        edge.promise(29, "papers");
        edge.says("PAPERS by a SHEET that is taken for one of a sort: from one on, three by three (as of paper()), n of them (0 .. 8): "
            + "how many came (others are left out).");
        for (int sort = 0; sort < 3; sort++) {
            OppositionInBaskets x = new OppositionInBaskets();
            x.sheet(3, sort, 40);
            edge.is("none", x.papers(3, sort, 0, 0), 0);
            edge.is("nobody came", x.count(0), 0);
            edge.is("eight, up to the last number", x.papers(3, sort, 16, 8), 8);
            edge.is("eight came", x.count(0), 8);
            OppositionInBaskets y = new OppositionInBaskets();
            State.write(y, 0, sort, 0, 0, -9, 5, 9, 9, -1, 0, 0, 6, 0, 0, 0, -1, 0, 0, 10, 0, 0, 0, -10, 0, 0, 10, 5, 0, -9);
            edge.is("the last ones on both sides come, the first ones beyond are left out", y.papers(0, sort, 0, 8), 2);
            edge.is("they are two", y.count(0), 2);
            edge.is("KIND 0", y.told(0, 7), 0);
            edge.is("MOOD -9", y.told(0, 3), -9);
            edge.is("KIND 5", y.told(1, 7), 5);
            edge.is("NUMBER 9", y.told(1, 2), 9);
            edge.is("MOOD 9", y.told(1, 3), 9);
            edge.is("the last three", y.papers(0, sort, 24, 1), 1);
            edge.is("all are left out", y.papers(0, sort, 6, 6), 0);
            edge.is("they are three", y.count(0), 3);
            edge.is("their DESK", y.told(2, 4), 0);
            edge.is("as CRUMPLED as one comes", y.told(2, 5), 50);
        }
        OppositionInBaskets x = new OppositionInBaskets();
        State.write(x, 0, 2, MIN, 0, 0, MAX, 0, 0, 256, 0, 0, 65536, 0, 0, 0, 256, 0, 0, 0, 65536);
        edge.is("ints are not cut", x.papers(0, 2, 0, 6), 0);
    }

    private void papersWhenFull() {
        edge.says("how many came (others are left out).");
        OppositionInBaskets x = new OppositionInBaskets();
        x.sheet(0, 0, 24);
        for (int p = 0; p < 7; p++) {
            x.paper(1, 1, 1);
        }
        edge.is("one has room", x.papers(0, 0, 0, 8), 1);
        edge.is("it came", x.told(7, 7), 0);
        edge.is("none has room", x.papers(0, 0, 0, 8), 0);
        edge.is("none has room", x.papers(0, 0, 0, 1), 0);
        edge.is("eight", x.count(0), 8);
        edge.leaves("papers(0, 0, 0, 8)", y -> y.papers(0, 0, 0, 8), 0, State.FULL);
    }

    private void papersRefuses() {
        edge.says("BAD: no such SHEET, sort, n; -13; -11; -12: what stood ahead came.");
        for (int sheet : Edge.outside(0, 3)) {
            edge.leaves("papers(" + sheet + ", 0, 0, 1)", x -> x.papers(sheet, 0, 0, 1), Edge.BAD, State.values());
            edge.leaves("papers(" + sheet + ", 2, -1, 1)", x -> x.papers(sheet, 2, -1, 1), Edge.BAD, State.values());
        }
        for (int sheet = 0; sheet < 4; sheet++) {
            int s = sheet;
            for (int sort : Edge.outside(0, 2)) {
                edge.leaves("papers(" + s + ", " + sort + ", 0, 1)", x -> x.papers(s, sort, 0, 1), Edge.BAD, State.values());
                edge.leaves("papers(" + s + ", " + sort + ", -1, 1)", x -> x.papers(s, sort, -1, 1), Edge.BAD, State.values());
            }
            for (int n : Edge.outside(0, 8)) {
                for (int sort = 0; sort < 3; sort++) {
                    int k = sort;
                    edge.leaves("papers(" + s + ", " + k + ", 0, " + n + ")", x -> x.papers(s, k, 0, n), Edge.BAD, State.values());
                    edge.leaves("papers(" + s + ", " + k + ", -1, " + n + ")", x -> x.papers(s, k, -1, n), Edge.BAD, State.values());
                }
            }
        }
        for (int n : new int[] {0, 1, 8}) {
            for (int from : new int[] {0, -1, 41, MIN, MAX}) {
                edge.leaves("papers(0, 1, ..)", x -> x.papers(0, 1, from, n), Edge.UNLIKE, State.SOME, State.FULL, State.TEXTS);
                edge.leaves("papers(0, 2, ..)", x -> x.papers(0, 2, from, n), Edge.UNLIKE, State.SOME, State.FULL, State.TEXTS);
                edge.leaves("papers(1, 0, ..)", x -> x.papers(1, 0, from, n), Edge.UNLIKE, State.SOME, State.FULL, State.TEXTS);
                edge.leaves("papers(1, 2, ..)", x -> x.papers(1, 2, from, n), Edge.UNLIKE, State.SOME, State.FULL, State.TEXTS);
                for (int sort = 0; sort < 3; sort++) {
                    int k = sort;
                    edge.leaves("papers(2, " + k + ", ..)", x -> x.papers(2, k, from, n), Edge.NOTHING, State.NEW, State.SOME);
                    edge.leaves("papers(3, " + k + ", ..)", x -> x.papers(3, k, from, n), Edge.NOTHING, State.NEW, State.TEXTS);
                }
            }
        }
    }

    private void papersOutside() {
        edge.says("-12: what stood ahead came.");
        for (int from : new int[] {-1, -2, -3, -4, 4, 5, 6, 7, MIN, MIN + 1, MIN + 2, MAX, MAX - 1, MAX - 2, MAX - 3}) {
            for (int n : new int[] {1, 2, 8}) {
                edge.leaves("papers(1, 1, " + from + ", " + n + ") of six", x -> x.papers(1, 1, from, n), Edge.OUTSIDE, State.SOME);
            }
        }
        for (int from : new int[] {-1, 38, 39, 40, MIN, MAX}) {
            edge.leaves("papers(3, 0, " + from + ", 1) of 40", x -> x.papers(3, 0, from, 1), Edge.OUTSIDE, State.FULL);
        }
        edge.leaves("papers(0, 0, 0, 1) of none", x -> x.papers(0, 0, 0, 1), Edge.OUTSIDE, State.TEXTS);
        edge.leaves("papers(0, 0, 0, 0) of none", x -> x.papers(0, 0, 0, 0), 0, State.TEXTS);
        for (int left = 0; left < 3; left++) {
            for (int came = 0; came < 8; came++) {
                OppositionInBaskets x = new OppositionInBaskets();
                x.sheet(0, 2, 3 * came + left);
                for (int i = 0; i < came; i++) {
                    x.cell(0, 3 * i + 1, i);
                }
                edge.is(came + " and " + left + " numbers", x.papers(0, 2, 0, 8), Edge.OUTSIDE);
                edge.is("what stood ahead came", x.count(0), came);
                edge.is("the last of them", x.told(came - 1, 2), came > 0 ? came - 1 : Edge.NONE_SUCH);
                edge.is("just so many", x.papers(0, 2, 0, came), Math.min(came, 8 - came));
            }
        }
        OppositionInBaskets x = new OppositionInBaskets();
        State.write(x, 0, 2, 6, 0, 0, 1, 1, 1, 0, 0);
        edge.is("of what stood ahead one is left out", x.papers(0, 2, 0, 3), Edge.OUTSIDE);
        edge.is("the other one came", x.count(0), 1);
        edge.is("its KIND", x.told(0, 7), 1);
        OppositionInBaskets y = new OppositionInBaskets();
        for (int p = 0; p < 8; p++) {
            y.paper(0, 0, 0);
        }
        y.sheet(0, 2, 5);
        edge.is("a place outside, though none has room", y.papers(0, 2, 0, 2), Edge.OUTSIDE);
        edge.is("eight", y.count(0), 8);
    }

    private void taken() {
        edge.promise(30, "taken");
        edge.says("A PAPER taken for one of KIND k (0 .. 5), or one under that one (also by others between): its NUMBER.");
        String[] under = {"100000", "110000", "101000", "110100", "101010", "100001"};
        for (int number : new int[] {0, 9}) {
            OppositionInBaskets x = new OppositionInBaskets();
            for (int p = 0; p < 8; p++) {
                x.paper(p % 6, number, 0);
            }
            for (int p = 0; p < 8; p++) {
                x.set(6, p, p % 2);
                for (int k = 0; k < 6; k++) {
                    edge.is("taken(" + p + ", " + k + ")", x.taken(p, k), under[p % 6].charAt(k) == '1' ? number : Edge.UNLIKE);
                }
            }
        }
    }

    private void takenRefuses() {
        edge.says("its NUMBER. BAD: k; -11: no such PAPER; -13.");
        for (int k : Edge.outside(0, 5)) {
            edge.leaves("taken(0, " + k + ")", x -> x.taken(0, k), Edge.BAD, State.values());
            edge.leaves("taken(8, " + k + ")", x -> x.taken(8, k), Edge.BAD, State.values());
            edge.leaves("taken(-1, " + k + ")", x -> x.taken(-1, k), Edge.BAD, State.values());
        }
        for (State s : State.values()) {
            for (int p : Edge.outside(0, s.papers - 1)) {
                for (int k = 0; k < 6; k++) {
                    int kind = k;
                    edge.leaves("taken(" + p + ", " + k + ")", x -> x.taken(p, kind), Edge.NOTHING, s);
                }
            }
        }
        for (int k : new int[] {1, 2, 3, 4}) {
            edge.leaves("taken(0, " + k + ") of a CORE", x -> x.taken(0, k), Edge.UNLIKE, State.FULL);
        }
        edge.leaves("taken(0, 3) of a LETTER", x -> x.taken(0, 3), Edge.UNLIKE, State.SOME);
        edge.leaves("taken(4, 1) of a DOODLE", x -> x.taken(4, 1), Edge.UNLIKE, State.SOME);
        edge.leaves("taken(4, 2) of a DOODLE", x -> x.taken(4, 2), 2, State.SOME);
    }
}
