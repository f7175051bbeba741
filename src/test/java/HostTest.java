/** Promises 26 to 30: sheet, cell, copy, papers, taken. */
public final class HostTest {
    private static final int MIN = Integer.MIN_VALUE, MAX = Integer.MAX_VALUE;
    private static final Due due = new Due();

    public static void main(String[] args) {
        sheet();
        cell();
        copy();
        copyOverlaps();
        papers();
        papersRefuses();
        papersWhenFull();
        taken();
        due.end();
    }

    /** How a sheet's three numbers are read: as the kind, number and mood of a paper, if they are such. */
    private static void reads(OppositionInBaskets x, int sheet, int sort, int from, int kind, int number, int mood) {
        int before = x.count(0);
        due.is("papers", x.papers(sheet, sort, from, 1), 1);
        due.is("kind", x.told(before, 7), kind);
        due.is("number", x.told(before, 2), number);
        due.is("mood", x.told(before, 3), mood);
    }

    private static void write(OppositionInBaskets x, int sheet, int sort, int... values) {
        due.is("sheet", x.sheet(sheet, sort, values.length), 1);
        for (int i = 0; i < values.length; i++) {
            due.is("cell", x.cell(sheet, i, values[i]), 1);
        }
    }

    private static void sheet() {
        OppositionInBaskets x = new OppositionInBaskets();
        for (int sheet : new int[] {-1, 4, MIN, MAX}) {
            due.is("no such sheet", x.sheet(sheet, 0, 1), -2);
            due.is("no such sheet goes ahead", x.sheet(sheet, 0, -1), -2);
            due.is("no such sheet, missing", x.sheet(sheet, -1, 0), -2);
        }
        for (int sort : new int[] {-2, 3, MIN, MAX}) {
            due.is("no such sort", x.sheet(0, sort, 1), -2);
            due.is("no such sort goes ahead", x.sheet(0, sort, -1), -2);
        }
        due.is("n above 40", x.sheet(0, 0, 41), -2);
        due.is("n far above 40", x.sheet(0, 0, MAX), -2);
        due.is("n below 0", x.sheet(0, 0, -1), -14);
        due.is("n far below 0", x.sheet(0, 0, MIN), -14);
        due.is("nothing changed", x.cell(0, 0, 0), -11);
        for (int sort = 0; sort < 3; sort++) {
            due.is("40", x.sheet(sort, sort, 40), 1);
            due.is("the last", x.cell(sort, 39, 1), 1);
            due.is("behind it", x.cell(sort, 40, 1), -12);
            due.is("0", x.sheet(sort, sort, 0), 1);
            due.is("it has none", x.cell(sort, 0, 1), -12);
        }
        write(x, 3, 2, 1, 2, 3);
        due.is("refused", x.sheet(3, 2, -1), -14);
        reads(x, 3, 2, 0, 1, 2, 3);
        due.is("anew", x.sheet(3, 2, 3), 1);
        reads(x, 3, 2, 0, 0, 0, 0);
        due.is("missing", x.sheet(3, -1, -5), 1);
        due.is("missing", x.cell(3, 0, 0), -11);
        due.is("missing again", x.sheet(3, -1, 99), 1);
    }

    private static void cell() {
        OppositionInBaskets x = new OppositionInBaskets();
        x.sheet(1, 1, 2);
        for (int sheet : new int[] {-1, 4, MIN, MAX}) {
            due.is("no such sheet", x.cell(sheet, 0, 0), -2);
        }
        due.is("missing goes ahead of a place outside", x.cell(0, -1, 0), -11);
        for (int i : new int[] {-1, 2, MIN, MAX}) {
            due.is("outside", x.cell(1, i, 0), -12);
        }
        write(x, 0, 0, 256 + 1, 512 + 2, 256 - 3);
        reads(x, 0, 0, 0, 1, 2, -3);
        write(x, 0, 1, 65536 + 2, 65536 * 3 + 9, 65536 - 9);
        reads(x, 0, 1, 0, 2, 9, -9);
        write(x, 0, 2, 3, 9, -9);
        reads(x, 0, 2, 0, 3, 9, -9);
        write(x, 0, 1, 256, 0, 0);
        due.is("a short of 256 is no kind", x.papers(0, 1, 0, 1), 0);
        write(x, 0, 2, 65536, 0, 0);
        due.is("an int of 65536 is no kind", x.papers(0, 2, 0, 1), 0);
    }

    private static void copy() {
        OppositionInBaskets x = new OppositionInBaskets();
        write(x, 0, 2, 1, 2, 3, 4, 5);
        x.sheet(1, 2, 3);
        x.sheet(2, 1, 3);
        for (int sheet : new int[] {-1, 4, MIN, MAX}) {
            due.is("no such sheet", x.copy(sheet, 0, 3, 0, 1), -2);
            due.is("no such sheet", x.copy(3, 0, sheet, 0, 1), -2);
        }
        due.is("missing", x.copy(3, 0, 0, 0, 1), -11);
        due.is("missing", x.copy(0, 0, 3, 0, -1), -11);
        due.is("unlike", x.copy(0, 0, 2, 0, 1), -13);
        due.is("unlike goes ahead", x.copy(2, -1, 0, 0, -1), -13);
        int[][] outside = {{0, 0, -1}, {-1, 0, 1}, {0, -1, 1}, {0, 0, 4}, {3, 0, 3}, {0, 1, 3}, {6, 0, 0}, {0, 4, 0},
            {-1, 0, 0}, {0, -1, 0}, {MAX, 0, 1}, {0, MAX, 1}, {1, 0, MAX}, {0, 1, MAX}, {0, 0, MIN}, {MIN, 0, MIN}};
        for (int[] o : outside) {
            due.is("outside " + o[0] + " " + o[1] + " " + o[2], x.copy(0, o[0], 1, o[1], o[2]), -12);
        }
        due.is("none, behind the last", x.copy(0, 5, 1, 3, 0), 0);
        reads(x, 1, 2, 0, 0, 0, 0);
        due.is("two", x.copy(0, 2, 1, 1, 2), 2);
        reads(x, 1, 2, 0, 0, 3, 4);
        due.is("all", x.copy(0, 2, 1, 0, 3), 3);
        reads(x, 1, 2, 0, 3, 4, 5);
        x.sheet(0, -1, 0);
        reads(x, 1, 2, 0, 3, 4, 5);
    }

    private static void copyOverlaps() {
        OppositionInBaskets x = new OppositionInBaskets();
        write(x, 0, 0, 1, 2, 3, 4, 5, 6);
        due.is("to behind", x.copy(0, 0, 0, 1, 5), 5);
        reads(x, 0, 0, 0, 1, 1, 2);
        reads(x, 0, 0, 3, 3, 4, 5);
        due.is("to ahead", x.copy(0, 2, 0, 0, 4), 4);
        reads(x, 0, 0, 0, 2, 3, 4);
        reads(x, 0, 0, 3, 5, 4, 5);
        due.is("to itself", x.copy(0, 0, 0, 0, 6), 6);
        reads(x, 0, 0, 0, 2, 3, 4);
    }

    private static void papers() {
        OppositionInBaskets x = new OppositionInBaskets();
        write(x, 0, 0, 9, 0, 0, 0, 6, 0, 0, 1, 10, 0, 2, 0, -10, 5, 9, -9, 4, 3);
        due.is("others are left out", x.papers(0, 0, 1, 5), 2);
        due.is("two came", x.count(0), 2);
        due.is("kind 0", x.told(0, 7), 0);
        due.is("kind 5", x.told(1, 7), 5);
        due.is("number 9", x.told(1, 2), 9);
        due.is("mood -9", x.told(1, 3), -9);
        due.is("what stood ahead came", x.papers(0, 0, 13, 2), -12);
        due.is("one came", x.count(0), 3);
        due.is("two of three are too few", x.papers(0, 0, 16, 2), -12);
        due.is("one of three is too few", x.papers(0, 0, 17, 1), -12);
        due.is("none came", x.count(0), 3);
        due.is("none", x.papers(0, 0, 0, 0), 0);
    }

    private static void papersRefuses() {
        OppositionInBaskets x = new OppositionInBaskets();
        x.sheet(0, 1, 30);
        for (int sheet : new int[] {-1, 4, MIN, MAX}) {
            due.is("no such sheet", x.papers(sheet, 1, 0, 1), -2);
        }
        for (int sort : new int[] {-1, 3, MIN, MAX}) {
            due.is("no such sort", x.papers(0, sort, 0, 1), -2);
            due.is("no such sort goes ahead", x.papers(1, sort, 0, 1), -2);
        }
        for (int n : new int[] {-1, 9, MIN, MAX}) {
            due.is("n", x.papers(0, 1, 0, n), -2);
            due.is("n goes ahead", x.papers(1, 1, 0, n), -2);
        }
        for (int sort = 0; sort < 3; sort++) {
            due.is("missing", x.papers(1, sort, -1, 1), -11);
            due.is("unlike", x.papers(0, sort, -1, 1), sort == 1 ? -12 : -13);
        }
        due.is("unlike, with none asked", x.papers(0, 0, 0, 0), -13);
        due.is("missing, with none asked", x.papers(1, 0, 0, 0), -11);
        for (int from : new int[] {-1, -3, 28, 30, MIN, MAX, MAX - 1, MAX - 2}) {
            due.is("outside " + from, x.papers(0, 1, from, 1), -12);
            due.is("outside " + from, x.papers(0, 1, from, 8), -12);
        }
        due.is("none came", x.count(0), 0);
        due.is("the last", x.papers(0, 1, 27, 1), 1);
    }

    private static void papersWhenFull() {
        OppositionInBaskets x = new OppositionInBaskets();
        x.sheet(0, 2, 40);
        due.is("five", x.papers(0, 2, 0, 5), 5);
        due.is("three more have room", x.papers(0, 2, 0, 8), 3);
        due.is("none", x.papers(0, 2, 0, 8), 0);
        due.is("outside goes on", x.papers(0, 2, 38, 1), -12);
        due.is("eight", x.count(0), 8);
    }

    private static void taken() {
        OppositionInBaskets x = new OppositionInBaskets();
        for (int kind = 0; kind < 6; kind++) {
            x.paper(kind, kind + 3, 0);
        }
        String[] under = {"100000", "110000", "101000", "110100", "101010", "100001"};
        for (int p = 0; p < 6; p++) {
            for (int k = 0; k < 6; k++) {
                due.is("taken(" + p + ", " + k + ")", x.taken(p, k), under[p].charAt(k) == '1' ? p + 3 : -13);
            }
        }
        for (int wrong : new int[] {-1, 6, MIN, MAX}) {
            due.is("k", x.taken(0, wrong), -2);
            due.is("k goes ahead", x.taken(wrong, wrong), -2);
            due.is("no such paper", x.taken(wrong, 0), -11);
        }
        x.set(6, 3, 1);
        due.is("a burnt one, too", x.taken(3, 1), 6);
    }
}
