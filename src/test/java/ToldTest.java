/** Promises 19 to 25: tells, film, drawn, chance, image, back, count. */
public final class ToldTest {
    private static final Due due = new Due();

    public static void main(String[] args) {
        tells();
        tellsOfTheSortsOfSheets();
        tellsRefuses();
        film();
        drawn();
        chance();
        image();
        count();
        due.end();
    }

    private static void write(OppositionInBaskets x, int sheet, int sort, int... values) {
        x.sheet(sheet, sort, values.length);
        for (int i = 0; i < values.length; i++) {
            x.cell(sheet, i, values[i]);
        }
    }

    private static void tells(OppositionInBaskets x, int paper, int... want) {
        for (int what = 0; what < 8; what++) {
            due.is("tells(0, " + paper + ", " + what + ")", x.tells(0, paper, what), want[what]);
        }
    }

    private static void tells() {
        OppositionInBaskets x = Due.ruled("feels (crumpled<20)*(topic-number)+mood;weighs 1;smooths 1;");
        Due.read(x, "feels topic-3;weighs 1;smooths 1;");
        Due.read(x, "feels -1+topic*0;weighs 1;smooths 1;");
        x.paper(0, 3, 0);
        x.paper(2, 0, 1);
        x.paper(4, 5, 2);
        write(x, 0, 2, -1, -1, -1, 0, 1, 1, 1, 1);
        // it is too crumpled: it doesn't vote at all
        tells(x, 0, 0, 0, 0, 0, 20, 0, 4, 0);
        x.set(5, 0, 10);
        tells(x, 0, -1, 1 | 1 << 1 | 1 << 3, 1 << 3, 1 << 9, 20, 0, 1 << 1 | 1 << 2, 1);
        x.set(6, 0, 1);
        tells(x, 0, -1, 1 | 1 << 1 | 1 << 3, 1 << 3, 1 << 9, 20, 0, 1 << 1 | 1 << 2, 1);
        // with another number a core, which feels 1 less, would vote so
        x.set(2, 0, 2);
        tells(x, 0, 2, 1 << 5, 1 << 3, 1 << 8, 0, -1, 1 << 2, 0);
        write(x, 0, 0, 1, 1, 1, 1, 1, 1, 1, 1);
        tells(x, 2, -1, 1 | 1 << 1 | 1 << 4 | 1 << 5, 1023, 0x1FF << 10, 100, 0, 15, 4);
        tells(x, 1, 1, 1 | 1 << 1 | 1 << 4, 0, 0, 0, -1, 0, 4);
        write(x, 0, 0, 1, -1, 1, -1, 1, -1, 1, -1);
        tells(x, 1, -1, 1 << 2, 1023, 0x1FF << 10, 100, 0, 3, 2);
        x.set(3, 1, -1);
        tells(x, 1, 0, 0, 0, 0x1FF << 10, 0, -1, 0, 0);
        write(x, 0, 0, -1, 1, -1, 1, -1, 1, -1, 1);
        // below 20 topics above 0 would make it feel otherwise
        tells(x, 1, -1, 1 << 2, 1023, 0x1FF, 80, 20, 1 << 1 | 1 << 3 | 1, 2);
        x.set(3, 1, 1);
        write(x, 0, 0, 1, 1, 1, 1, 1, 1, 1, 0);
        due.is("the last is otherwise", x.tells(0, 2, 0), 7);
        write(x, 0, 0, 0, 0, 0, 0, 0, 0, 0, 0);
        x.set(6, 2, 1);
        due.is("a burnt one isn't one that doesn't vote", x.tells(0, 2, 7), 0);
        due.is("nor so", x.tells(0, 2, 0), 0);
        due.is("by this mood it would be so", x.tells(0, 2, 3), 1 << 9);
    }

    private static void tellsOfTheSortsOfSheets() {
        OppositionInBaskets x = new OppositionInBaskets();
        x.paper(0, 0, -1);
        for (int sort = 0; sort < 3; sort++) {
            write(x, 3, sort, -1, -1, -1, -1, -1, -1, -1, -1);
            due.is("tells(3, 0, 0)", x.tells(3, 0, 0), -1);
            x.cell(3, 5, 255);
            due.is("a byte of 255 is -1", x.tells(3, 0, 0), sort == 0 ? -1 : 5);
            x.cell(3, 5, 65535);
            due.is("a short of 65535 is -1", x.tells(3, 0, 0), sort < 2 ? -1 : 5);
            x.cell(3, 5, -2);
            due.is("-2 is no vote", x.tells(3, 0, 0), 5);
            due.is("nor of any kind", x.tells(3, 0, 1), 0);
        }
    }

    private static void tellsRefuses() {
        OppositionInBaskets x = new OppositionInBaskets();
        x.paper(0, 0, 0);
        due.is("missing", x.tells(0, 0, 0), -11);
        for (int wrong : new int[] {-1, 8, Integer.MIN_VALUE, Integer.MAX_VALUE}) {
            due.is("sheet", x.tells(wrong, 0, 0), -2);
            due.is("paper", x.tells(0, wrong, 0), -2);
            due.is("what", x.tells(0, 0, wrong), -2);
        }
        due.is("sheet 4", x.tells(4, 0, 0), -2);
        due.is("paper 1", x.tells(0, 1, 0), -2);
        for (int n : new int[] {0, 7, 9, 40}) {
            x.sheet(0, 1, n);
            due.is("it tells " + n, x.tells(0, 0, 0), -2);
        }
        x.sheet(0, 1, 8);
        due.is("it tells 8", x.tells(0, 0, 0), -1);
    }

    private static void film() {
        OppositionInBaskets x = Due.ruled("feels topic-3;weighs 1;smooths 1;");
        x.paper(0, 0, 0);
        x.paper(1, 0, 0);
        x.set(6, 1, 1);
        write(x, 2, 2, 5, 5, 5);
        due.is("film(2, 0)", x.film(2, 0), 7);
        due.is("it tells them", x.tells(2, 0, 0), -1);
        due.is("film(3, 1): were it not burnt", x.film(3, 1), 7);
        due.is("it tells them", x.tells(3, 1, 0), -1);
        due.is("it has 8", x.cell(2, 8, 0), -12);
        x.sheet(0, 0, 8);
        due.is("they are bytes", x.copy(2, 0, 0, 0, 8), 8);
        due.is("as they were", x.tells(0, 0, 0), -1);
        x.cell(2, 3, 256);
        due.is("they are bytes", x.tells(2, 0, 0), -1);
        for (int wrong : new int[] {-1, 4, Integer.MIN_VALUE, Integer.MAX_VALUE}) {
            due.is("sheet", x.film(wrong, 0), -2);
            due.is("paper", x.film(1, wrong), -2);
        }
        due.is("paper", x.film(1, 2), -2);
        due.is("nothing changed", x.cell(1, 0, 0), -11);
        x.force(0);
        due.is("one that never votes", x.film(0, 0), 0);
    }

    private static OppositionInBaskets oddTopics() {
        OppositionInBaskets x = Due.ruled("feels topic=1 or topic=3 or topic=5 or topic=7;weighs 1;smooths 1;");
        x.paper(0, 0, 0);
        x.set(1, 0, 1);
        due.is("topics(0)", x.topics(0), 0xAA);
        return x;
    }

    private static int drawnOdd(int seed, int n) {
        int z = seed;
        int odd = 0;
        for (int i = 0; i < n; i++) {
            z = z * 1103515245 + 12345;
            odd += Integer.remainderUnsigned(z >>> 9, 8) % 2;
        }
        return odd;
    }

    private static void drawn() {
        OppositionInBaskets x = oddTopics();
        // z is 12345 at first: 24, which is topic 0; then -744,477,238 or so
        due.is("drawn(0, 0)", x.drawn(0, 0), 0);
        due.is("drawn(0, 1)", x.drawn(0, 1), 0);
        for (int seed : new int[] {0, 1, 7, -1, 12345, Integer.MIN_VALUE, Integer.MAX_VALUE}) {
            x = oddTopics();
            for (int n = 0; n <= 99; n++) {
                due.is("drawn(" + seed + ", " + n + ")", x.drawn(seed, n), drawnOdd(seed, n));
            }
        }
        due.is("drawn(0, -1)", x.drawn(0, -1), -2);
        due.is("drawn(0, 100)", x.drawn(0, 100), -2);
        x.set(6, 0, 1);
        due.is("none is carried", x.drawn(5, 99), 0);
    }

    private static void chance() {
        OppositionInBaskets x = oddTopics();
        for (int seed : new int[] {0, 3, -9, Integer.MAX_VALUE - 4}) {
            x = oddTopics();
            for (int m = 1; m <= 20; m++) {
                for (int k = 0; k <= 5; k++) {
                    int enough = 0;
                    for (int i = 0; i < m; i++) {
                        enough += drawnOdd(seed + i, 5) >= k ? 1 : 0;
                    }
                    int common = m;
                    while (enough % common != 0 || m % common != 0) {
                        common--;
                    }
                    due.is("chance(.., 0)", x.chance(seed, m, k, 0), enough / common);
                    due.is("chance(.., 1)", x.chance(seed, m, k, 1), m / common);
                }
            }
        }
        long no = OppositionInBaskets.NO;
        int[][] wrong = {{0, 0, 0}, {21, 0, 0}, {-1, 0, 0}, {1, -1, 0}, {1, 6, 0}, {1, 0, -1}, {1, 0, 2},
            {Integer.MIN_VALUE, 0, 0}, {Integer.MAX_VALUE, 0, 0}};
        for (int[] w : wrong) {
            due.is("chance", x.chance(0, w[0], w[1], w[2]), no);
        }
        x.set(6, 0, 1);
        due.is("0 above the line", x.chance(0, 20, 1, 0), 0);
        due.is("1 below the line", x.chance(0, 20, 1, 1), 1);
        due.is("1 above the line", x.chance(0, 20, 0, 0), 1);
    }

    private static void image() {
        OppositionInBaskets x = new OppositionInBaskets();
        due.is("back() to none", x.back(), -3);
        x.paper(1, 2, 3);
        x.paper(5, 4, -3);
        x.set(0, 0, 77);
        x.set(1, 0, 5);
        x.set(4, 1, 2);
        x.set(5, 0, 20);
        x.set(6, 1, 1);
        due.is("image()", x.image(), 2);
        x.day();
        x.set(1, 0, 6);
        x.set(2, 0, 9);
        x.set(3, 0, 9);
        x.set(4, 1, 1);
        x.set(6, 1, 0);
        x.paper(0, 0, 0);
        Due.read(x, "feels 1;weighs 1;smooths 1;");
        x.force(1);
        x.sheet(1, 0, 3);
        x.feed(32);
        due.is("back()", x.back(), 2);
        int[][] want = {{77, 5, 2, 3, 0, 20, 0, 1}, {77, 5, 4, -3, 2, 50, 1, 5}};
        for (int p = 0; p < 2; p++) {
            for (int what = 0; what < 8; what++) {
                due.is("told(" + p + ", " + what + ")", x.told(p, what), want[p][what]);
            }
        }
        due.is("what came since went", x.told(2, 7), -1000);
        due.is("papers", x.count(0), 2);
        due.is("the rule", x.count(5), 0);
        due.is("texts stay", x.count(3), 2);
        due.is("the tape stays", x.count(4), 1);
        due.is("sheets stay", x.cell(1, 0, 0), 1);
        x.set(0, 0, 1);
        x.paper(2, 2, 2);
        due.is("back() again", x.back(), 2);
        due.is("the day again", x.told(0, 0), 77);
        x.paper(3, 3, 3);
        x.force(1);
        due.is("a newer image", x.image(), 3);
        x.force(0);
        due.is("back() to it", x.back(), 3);
        due.is("its rule", x.count(5), 1);
        due.is("its paper", x.told(2, 7), 3);
        x.run(9, 8);
        due.is("thoughts leave it alone", x.back(), 3);
        due.is("the day", x.told(0, 0), 77);
        OppositionInBaskets y = new OppositionInBaskets();
        due.is("an image of nobody", y.image(), 0);
        y.paper(0, 0, 0);
        due.is("back()", y.back(), 0);
        due.is("nobody", y.count(0), 0);
    }

    private static void count() {
        OppositionInBaskets x = new OppositionInBaskets();
        x.paper(0, 4, 0);
        x.paper(1, 3, 0);
        x.paper(5, 9, 0);
        due.is("papers", x.count(0), 3);
        due.is("burnt", x.count(1), 0);
        due.is("weight", x.count(2), 15);
        x.set(6, 1, 1);
        due.is("papers", x.count(0), 3);
        due.is("burnt", x.count(1), 1);
        due.is("weight", x.count(2), 8);
        due.is("texts", x.count(3), 1);
        x.feed(1);
        x.feed(2);
        due.is("bytes", x.count(4), 2);
        x.text();
        due.is("bytes", x.count(4), 0);
        Due.read(x, "feels 1;weighs 2;smooths 1;");
        due.is("texts", x.count(3), 2);
        due.is("the rule", x.count(5), 0);
        x.force(1);
        due.is("the rule", x.count(5), 1);
        due.is("weight", x.count(2), 5);
        for (int wrong : new int[] {-1, 6, Integer.MIN_VALUE, Integer.MAX_VALUE}) {
            due.is("count(" + wrong + ")", x.count(wrong), -2);
        }
    }
}
