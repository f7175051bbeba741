/** Promises 9 to 12: division, topics, day, run. */
public final class DivisionsTest {
    /** By this rule a draft's number is its weight and its mood its vote. */
    private static final String PLAIN = "feels mood;weighs number;smooths 5;";
    private static final Due due = new Due();

    public static void main(String[] args) {
        division();
        division(new int[][] {{5, 1}, {5, -1}}, 5, 5, 5, 0, 1, 2, 2);
        division(new int[][] {{5, 1}, {4, -1}}, 5, 5, 4, 1, 1, 2, 1);
        division(new int[][] {{5, 1}, {4, -1}}, 6, 5, 4, 0, 1, 2, 2);
        division(new int[][] {{0, 1}, {9, 0}}, 1, 0, 0, 0, 1, 0, 0);
        division(new int[][] {{6, -1}, {3, -1}, {3, -1}}, 6, 0, 12, 0, 0, 7, 0);
        division(new int[][] {{7, -1}, {3, -1}, {3, -1}}, 6, 0, 13, 0, 0, 7, 1);
        refusals();
        topics();
        day();
        smoothsByKind();
        run();
        runPassesTheLastDay();
        due.end();
    }

    private static OppositionInBaskets chamber(int[][] weightAndVote, int needed) {
        OppositionInBaskets x = Due.ruled(PLAIN);
        for (int[] p : weightAndVote) {
            x.paper(0, p[0], p[1]);
        }
        x.set(1, 0, needed);
        return x;
    }

    private static void division(int[][] weightAndVote, int needed, int... want) {
        OppositionInBaskets x = chamber(weightAndVote, needed);
        for (int t = 0; t < 8; t++) {
            for (int what = 0; what < 6; what++) {
                due.is("division(" + t + ", " + what + ")", x.division(t, what), want[what]);
            }
        }
    }

    private static void division() {
        int[][] papers = {{4, 9}, {3, 1}, {5, -1}, {2, 0}};
        division(papers, 7, 7, 5, 1, 3, 4, 3);
        division(papers, 8, 7, 5, 0, 3, 4, 4);
        OppositionInBaskets x = chamber(papers, 7);
        x.set(6, 0, 1);
        int[] want = {3, 5, 0, 2, 4, 4};
        for (int what = 0; what < 6; what++) {
            due.is("with one burnt, " + what, x.division(0, what), want[what]);
        }
        OppositionInBaskets y = Due.ruled("feels topic-3;weighs number;smooths 5;");
        y.paper(0, 3, 0);
        y.set(1, 0, 3);
        for (int t = 0; t < 8; t++) {
            due.is("for " + t, y.division(t, 3), t > 3 ? 1 : 0);
            due.is("against " + t, y.division(t, 4), t < 3 ? 1 : 0);
        }
    }

    private static void refusals() {
        OppositionInBaskets x = chamber(new int[][] {{4, 1}}, 1);
        int[] wrong = {-1, 8, Integer.MIN_VALUE, Integer.MAX_VALUE};
        for (int w : wrong) {
            due.is("division(" + w + ", 0)", x.division(w, 0), -2);
            due.is("division(0, " + w + ")", x.division(0, w), -2);
            due.is("topics(" + w + ")", x.topics(w), -2);
            due.is("run(0, " + (w == 8 ? 9 : w) + ")", x.run(0, w == 8 ? 9 : w), -2);
            due.is("run(" + (w == 8 ? 41 : w) + ", 0)", x.run(w == 8 ? 41 : w, 0), -2);
        }
        due.is("division(0, 6)", x.division(0, 6), -2);
        due.is("topics(3)", x.topics(3), -2);
    }

    private static void topics() {
        // for a paper of mood 0 and weight 5 against, against, nothing, for .. ; the other is always against
        OppositionInBaskets x = Due.ruled("feels topic*(mood=0)-2+mood;weighs number;smooths 1;");
        x.paper(0, 5, 0);
        x.paper(0, 2, -1);
        x.set(1, 0, 5);
        due.is("topics(0)", x.topics(0), 0xF8);
        due.is("topics(1)", x.topics(1), 0);
        due.is("topics(2)", x.topics(2), 7);
        x.set(3, 1, 9);
        due.is("topics(1): the last ones are most at one", x.topics(1), 3);
        due.is("topics(2)", x.topics(2), 7);
        due.is("topics(0)", x.topics(0), 0xF8);
        x.set(6, 1, 1);
        due.is("topics(1): of like ones the first", x.topics(1), 0);
        due.is("topics(2): without a sign", x.topics(2), 5);
        x.set(1, 0, 6);
        due.is("topics(0)", x.topics(0), 0);
        x.set(2, 0, 8);
        due.is("topics(2) by the weights of now", x.topics(2), 8);
        x.force(0);
        Due.read(x, "feels topic=8;weighs 9;smooths 1;");
        x.force(2);
        due.is("there is no topic 8", x.topics(2), 0);
        due.is("there is no topic 8", x.topics(1), 0);
        OppositionInBaskets y = new OppositionInBaskets();
        due.is("topics(1) of nobody", y.topics(1), 0);
        due.is("topics(2) of nobody", y.topics(2), 0);
    }

    private static void day() {
        OppositionInBaskets x = Due.ruled("feels 1;weighs 1;smooths number+day;");
        x.paper(0, 9, 0);
        x.paper(0, 0, 0);
        x.paper(0, 9, 0);
        x.paper(0, 3, 0);
        x.set(5, 0, 10);
        x.set(6, 2, 1);
        x.set(5, 2, 0);
        x.set(5, 3, 0);
        due.is("day()", x.day(), 1);
        due.is("it is a day later", x.told(0, 0), 1);
        due.is("paper 0", x.told(0, 5), 1);
        due.is("paper 1: by the day that ends", x.told(1, 5), 50);
        due.is("day()", x.day(), 2);
        due.is("paper 0: 0 at least", x.told(0, 5), 0);
        due.is("paper 1", x.told(1, 5), 49);
        x.set(5, 2, 9);
        due.is("day()", x.day(), 2);
        due.is("one that is burnt stays", x.told(2, 5), 9);
        x.set(0, 0, 998);
        due.is("day()", x.day(), 3);
        due.is("the last day", x.told(0, 0), 999);
        x.set(5, 1, 9);
        due.is("day() behind the last", x.day(), -3);
        due.is("nothing changed", x.told(1, 5), 9);
        due.is("nothing changed", x.told(0, 0), 999);
        due.is("a day of nobody", new OppositionInBaskets().day(), 0);
    }

    private static void smoothsByKind() {
        OppositionInBaskets x = new OppositionInBaskets();
        int[] then = {45, 45, 40, 38, 40, 50};
        for (int kind = 0; kind < 6; kind++) {
            x.paper(kind, 7, 0);
        }
        x.day();
        for (int kind = 0; kind < 6; kind++) {
            due.is("kind " + kind, x.told(kind, 5), then[kind]);
        }
    }

    private static void run() {
        // for a motion from 20 down, and the heavier the later the day
        OppositionInBaskets x = Due.ruled("feels 21-crumpled-topic;weighs day;smooths 10;");
        x.paper(0, 0, 0);
        x.set(1, 0, 3);
        due.is("run(0, 8)", x.run(0, 8), 0);
        due.is("run(0, 0)", x.run(0, 0), 0);
        due.is("run(3, 8)", x.run(3, 8), 1);
        due.is("run(3, 0)", x.run(3, 0), 3);
        due.is("run(3, 1)", x.run(3, 1), 0);
        due.is("run(4, 8)", x.run(4, 8), 8);
        due.is("run(4, 7)", x.run(4, 7), 4);
        due.is("run(40, 7)", x.run(40, 7), 40);
        due.is("in thought: the day", x.told(0, 0), 0);
        due.is("in thought: the paper", x.told(0, 5), 50);
        x.day();
        due.is("run(2, 0)", x.run(2, 0), 3);
        due.is("run(2, 8)", x.run(2, 8), 1);
        x.set(6, 0, 1);
        due.is("burnt", x.run(40, 0), 0);
        due.is("burnt", x.run(40, 8), 0);
    }

    private static void runPassesTheLastDay() {
        OppositionInBaskets x = Due.ruled("feels 1;weighs day-960;smooths 0;");
        x.paper(0, 0, 0);
        x.set(0, 0, 999);
        due.is("run(0, 0)", x.run(0, 0), 39);
        due.is("run(1, 0)", x.run(1, 0), 40);
        due.is("run(40, 0)", x.run(40, 0), 79);
        due.is("run(40, 8)", x.run(40, 8), 8);
        due.is("day", x.told(0, 0), 999);
    }
}
