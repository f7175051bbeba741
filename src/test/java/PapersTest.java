/** Promises 1 to 5: a new object, set, paper, told, burn; and how a paper feels, weighs, smooths by its kind. */
public final class PapersTest {
    private static final Due due = new Due();

    public static void main(String[] args) {
        newObject();
        set();
        paper();
        told();
        kinds();
        bounds();
        burn();
        due.end();
    }

    private static void newObject() {
        OppositionInBaskets x = new OppositionInBaskets();
        due.is("count(0)", x.count(0), 0);
        due.is("count(1)", x.count(1), 0);
        due.is("count(2)", x.count(2), 0);
        due.is("count(3)", x.count(3), 1);
        due.is("count(4)", x.count(4), 0);
        due.is("count(5)", x.count(5), 0);
        due.is("told(0, 0)", x.told(0, 0), 0);
        due.is("told(-7, 1)", x.told(-7, 1), 10);
        due.is("told(0, 2)", x.told(0, 2), -1000);
        due.is("back()", x.back(), -3);
        for (int s = 0; s < 4; s++) {
            due.is("cell of a missing sheet", x.cell(s, 0, 0), -11);
        }
        due.is("division(0, 0)", x.division(0, 0), 0);
        due.is("force(1)", x.force(1), -2);
    }

    private static void set() {
        int[] least = {0, 1, 0, -9, 0, 0, 0};
        int[] greatest = {999, 999, 9, 9, 3, 99, 1};
        int[] atFirst = {0, 10, 4, -2, 0, 50, 0};
        for (int what = 0; what <= 6; what++) {
            OppositionInBaskets x = new OppositionInBaskets();
            x.paper(0, 1, 1);
            x.paper(3, 4, -2);
            due.is("set to the greatest " + what, x.set(what, 1, greatest[what]), atFirst[what]);
            due.is("told of it", x.told(1, what), greatest[what]);
            due.is("set to the least " + what, x.set(what, 1, least[what]), greatest[what]);
            due.is("told of it", x.told(1, what), least[what]);
            due.is("too great", x.set(what, 1, greatest[what] + 1), -1000);
            due.is("too small", x.set(what, 1, least[what] - 1), -1000);
            due.is("far too great", x.set(what, 1, Integer.MAX_VALUE), -1000);
            due.is("far too small", x.set(what, 1, Integer.MIN_VALUE), -1000);
            due.is("unchanged by refusals", x.told(1, what), least[what]);
            int other = what < 2 ? least[what] : what == 2 || what == 3 ? 1 : atFirst[what];
            due.is("only that paper " + what, x.told(0, what), other);
            long refused = what < 2 ? least[what] : -1000;
            due.is("no such paper " + what, x.set(what, 2, greatest[what]), refused);
            due.is("no such paper " + what, x.set(what, -1, least[what]), what < 2 ? greatest[what] : -1000);
        }
        OppositionInBaskets x = new OppositionInBaskets();
        x.paper(0, 0, 0);
        due.is("set(7, 0, 0)", x.set(7, 0, 0), -1000);
        due.is("set(-1, 0, 0)", x.set(-1, 0, 0), -1000);
        due.is("set(MAX, 0, 0)", x.set(Integer.MAX_VALUE, 0, 0), -1000);
        due.is("set(MIN, 0, 0)", x.set(Integer.MIN_VALUE, 0, 0), -1000);
        due.is("set(0, 99, 5) without such a paper", x.set(0, 99, 5), 0);
        due.is("set(1, -99, 5) without such a paper", x.set(1, -99, 5), 10);
    }

    private static void paper() {
        OppositionInBaskets x = new OppositionInBaskets();
        int[][] bad = {{-1, 0, 0}, {6, 0, 0}, {0, -1, 0}, {0, 10, 0}, {0, 0, -10}, {0, 0, 10}};
        for (int[] b : bad) {
            due.is("a bad paper", x.paper(b[0], b[1], b[2]), -2);
        }
        due.is("none came", x.count(0), 0);
        int[][] good = {{0, 0, -9}, {5, 9, 9}, {1, 2, 3}, {2, 3, 4}, {3, 4, 5}, {4, 5, 6}, {0, 6, 7}, {5, 7, 8}};
        for (int i = 0; i < 8; i++) {
            due.is("paper " + i, x.paper(good[i][0], good[i][1], good[i][2]), i);
        }
        due.is("the ninth", x.paper(0, 0, 0), -4);
        due.is("bad goes ahead of full", x.paper(6, 0, 0), -2);
        for (int i = 0; i < 8; i++) {
            due.is("its kind", x.told(i, 7), good[i][0]);
            due.is("its number", x.told(i, 2), good[i][1]);
            due.is("its mood", x.told(i, 3), good[i][2]);
            due.is("its desk", x.told(i, 4), 0);
            due.is("how crumpled", x.told(i, 5), 50);
            due.is("burnt", x.told(i, 6), 0);
        }
        comesAnew();
    }

    /** A paper that comes where another one went is as one comes. */
    private static void comesAnew() {
        OppositionInBaskets x = new OppositionInBaskets();
        x.image();
        x.paper(0, 1, 1);
        x.set(4, 0, 3);
        x.set(5, 0, 7);
        x.set(6, 0, 1);
        x.back();
        x.paper(1, 2, 2);
        due.is("its desk", x.told(0, 4), 0);
        due.is("how crumpled", x.told(0, 5), 50);
        due.is("burnt", x.told(0, 6), 0);
    }

    private static void told() {
        OppositionInBaskets x = new OppositionInBaskets();
        x.paper(2, 4, 3);
        x.paper(0, 0, 0);
        int[] wrong = {-1, 18, 19, 28, 29, 100, Integer.MIN_VALUE, Integer.MAX_VALUE};
        for (int w : wrong) {
            due.is("told(0, " + w + ")", x.told(0, w), -1000);
        }
        due.is("told(2, 7)", x.told(2, 7), -1000);
        due.is("told(-1, 8)", x.told(-1, 8), -1000);
        due.is("told(2, 10)", x.told(2, 10), -1000);
        for (int t = 0; t < 8; t++) {
            due.is("feels of " + t, x.told(0, 10 + t), t % 2 == 0 ? 3 : -3);
            due.is("votes on " + t, x.told(0, 20 + t), t % 2 == 0 ? 1 : -1);
            due.is("feels nothing of " + t, x.told(1, 10 + t), 0);
            due.is("doesn't vote on " + t, x.told(1, 20 + t), 0);
        }
        x.set(6, 0, 1);
        due.is("burnt: it weighs", x.told(0, 8), 2);
        due.is("burnt: it smooths", x.told(0, 9), 10);
        for (int t = 0; t < 8; t++) {
            due.is("burnt: it feels", x.told(0, 10 + t), t % 2 == 0 ? 3 : -3);
            due.is("burnt: it doesn't vote", x.told(0, 20 + t), 0);
        }
    }

    private static void kinds() {
        OppositionInBaskets x = Due.ruled("feels topic * 3 - 4 ; weighs 7 + number ; smooths 11 ;");
        for (int kind = 0; kind < 6; kind++) {
            x.paper(kind, 9, -5);
        }
        int[] weighs = {16, 25, 8, 25, 9, 3};
        int[] smooths = {11, 11, 22, 20, 22, 0};
        for (int kind = 0; kind < 6; kind++) {
            due.is("weighs, kind " + kind, x.told(kind, 8), weighs[kind]);
            due.is("smooths, kind " + kind, x.told(kind, 9), smooths[kind]);
        }
        for (int t = 0; t < 8; t++) {
            int v = 3 * t - 4;
            long[] feels = {v, 2 * v, t % 2 == 1 ? -v : v, t == 1 ? 0 : 2 * v, -5, v - 1};
            for (int kind = 0; kind < 6; kind++) {
                due.is("feels of " + t + ", kind " + kind, x.told(kind, 10 + t), feels[kind]);
                due.is("votes on " + t + ", kind " + kind, x.told(kind, 20 + t), Long.signum(feels[kind]));
            }
        }
        for (int number = 0; number < 10; number++) {
            x.set(2, 3, number);
            for (int t = 0; t < 8; t++) {
                due.is("a memo of number " + number + " on " + t, x.told(3, 10 + t), t == number % 8 ? 0 : 2 * (3 * t - 4));
            }
        }
    }

    /** What a text tells is bounded, then what the kind makes of it is. */
    private static void bounds() {
        int[][] weighs = {{98, 99, 49, 99, 50, 3}, {99, 99, 49, 99, 50, 3}, {0, 9, 0, 9, 1, 3}};
        int[][] smooths = {{98, 98, 99, 99, 99, 0}, {99, 99, 99, 99, 99, 0}, {0, 0, 0, 9, 0, 0}};
        int[][] feels = {{98, 196, 98, 196, 4, 97}, {99, 198, 99, 198, 4, 98}, {-99, -198, -99, -198, 4, -100}};
        String[] value = {"98", "9999*9999", "-100"};
        for (int i = 0; i < 3; i++) {
            OppositionInBaskets x = Due.ruled("feels " + value[i] + ";weighs " + value[i] + ";smooths " + value[i] + ";");
            for (int kind = 0; kind < 6; kind++) {
                x.paper(kind, 9, 4);
                due.is("weighs " + value[i] + " kind " + kind, x.told(kind, 8), weighs[i][kind]);
                due.is("smooths " + value[i] + " kind " + kind, x.told(kind, 9), smooths[i][kind]);
                due.is("feels " + value[i] + " kind " + kind, x.told(kind, 10), feels[i][kind]);
            }
        }
        OppositionInBaskets x = Due.ruled("feels 100;weighs 100;smooths 49;");
        x.paper(0, 0, 0);
        x.paper(2, 0, 0);
        due.is("feels 100", x.told(0, 10), 99);
        due.is("weighs 100", x.told(0, 8), 99);
        due.is("weighs 100, an envelope", x.told(1, 8), 49);
        due.is("smooths 49, an envelope", x.told(1, 9), 98);
    }

    private static void burn() {
        OppositionInBaskets x = new OppositionInBaskets();
        due.is("none to burn", x.burn(0), 0);
        for (int i = 0; i < 5; i++) {
            x.paper(0, 1, 1);
        }
        x.set(4, 1, 3);
        x.set(4, 3, 3);
        x.set(4, 4, 3);
        x.set(6, 3, 1);
        due.is("burn(-1)", x.burn(-1), -2);
        due.is("burn(4)", x.burn(4), -2);
        due.is("burn(3)", x.burn(3), 2);
        due.is("burn(3) again", x.burn(3), 0);
        int[] burnt = {0, 1, 0, 1, 1};
        for (int i = 0; i < 5; i++) {
            due.is("burnt " + i, x.told(i, 6), burnt[i]);
        }
        due.is("burn(2)", x.burn(2), 0);
        due.is("burn(0)", x.burn(0), 2);
        due.is("count(1)", x.count(1), 5);
        due.is("set(6, 0, 0)", x.set(6, 0, 0), 1);
        due.is("burn(0)", x.burn(0), 1);
    }
}
