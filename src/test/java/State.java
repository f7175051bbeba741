/** States of an object in which calls are held to their edges. Each is made with fewer than 300 calls. */
enum State {
    /** As the constructor leaves it. */
    NEW(0, 1),
    /** Of everything something: five papers, one of them burnt, three texts, half a text on the tape, an image of one paper. */
    SOME(5, 3),
    /** Eight papers on the last day, a tape of 160 bytes, sheets of 40 numbers, an image of two papers. */
    FULL(8, 1),
    /** Six texts, the last is the rule; three papers, all burnt; sheets of 0, 3 and 8 numbers; no image. */
    TEXTS(3, 6);

    static final String SHORTEST = "feels 1;weighs 1;smooths 1;";

    final int papers;
    final int texts;

    State(int papers, int texts) {
        this.papers = papers;
        this.texts = texts;
    }

    OppositionInBaskets make() {
        OppositionInBaskets x = new OppositionInBaskets();
        switch (this) {
            case SOME -> some(x);
            case FULL -> full(x);
            case TEXTS -> texts(x);
            default -> {
            }
        }
        return x;
    }

    static void feed(OppositionInBaskets x, String text) {
        for (int i = 0; i < text.length(); i++) {
            x.feed(text.charAt(i));
        }
    }

    static void write(OppositionInBaskets x, int sheet, int sort, int... values) {
        x.sheet(sheet, sort, values.length);
        for (int i = 0; i < values.length; i++) {
            x.cell(sheet, i, values[i]);
        }
    }

    private static void some(OppositionInBaskets x) {
        x.paper(1, 4, 2);
        x.set(0, 0, 5);
        x.set(1, 0, 12);
        x.set(5, 0, 30);
        x.image();
        x.paper(0, 3, -4);
        x.paper(2, 6, 5);
        x.paper(3, 9, 1);
        x.paper(4, 2, -7);
        x.set(4, 1, 1);
        x.set(4, 2, 3);
        x.set(5, 2, 0);
        x.set(5, 4, 99);
        x.set(6, 3, 1);
        x.set(0, 0, 40);
        x.set(1, 0, 9);
        Due.read(x, "feels mood+topic-3;weighs 2+number;smooths 4;");
        Due.read(x, "feels topic-3;weighs crumpled;smooths desk;");
        x.force(1);
        feed(x, "feels 7;weighs 8;");
        write(x, 0, 0, 1, -1, 0, 1, -1, 0, 1, -1);
        write(x, 1, 1, 1, 2, 3, 4, 5, -6);
        write(x, 3, 2, 5, 9, -9, 0, 0, 9, 77);
    }

    private static void full(OppositionInBaskets x) {
        x.paper(5, 9, 9);
        x.paper(0, 7, -9);
        x.image();
        for (int kind = 0; kind < 6; kind++) {
            x.paper(kind, kind + 2, kind - 3);
        }
        x.set(0, 0, 999);
        x.set(1, 0, 20);
        feed(x, "feels 7;weighs 8;smooths 9;" + " ".repeat(133));
        for (int sheet = 0; sheet < 4; sheet++) {
            x.sheet(sheet, sheet % 3, 40);
            for (int i = 0; i < 6; i++) {
                x.cell(sheet, i, i % 3 + sheet);
            }
        }
    }

    private static void texts(OppositionInBaskets x) {
        for (int i = 0; i < 4; i++) {
            Due.read(x, SHORTEST);
        }
        Due.read(x, "feels 2;weighs 3;smooths 4;");
        x.force(5);
        for (int i = 0; i < 3; i++) {
            x.paper(i, i + 4, i - 1);
            x.set(4, i, i);
            x.set(6, i, 1);
        }
        feed(x, SHORTEST);
        x.sheet(0, 0, 0);
        write(x, 1, 1, 1, 1, 1);
        write(x, 2, 2, 1, 1, 1, 1, 1, 1, 1, 1);
    }
}
