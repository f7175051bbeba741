import java.util.ArrayList;
import java.util.List;

/** Promises 13 to 18: often, power, torn, fewest, stop, goesWith. */
public final class DecidesTest {
    private static final String PLAIN = "feels mood;weighs number;smooths 5;";
    private static final Due due = new Due();

    public static void main(String[] args) {
        knownCouncil();
        refusals();
        againstAllOrders();
        torn();
        fewest();
        stop();
        goesWith();
        due.end();
    }

    private static OppositionInBaskets chamber(int needed, int... weights) {
        OppositionInBaskets x = Due.ruled(PLAIN);
        for (int w : weights) {
            x.paper(0, w, 1);
        }
        x.set(1, 0, needed);
        return x;
    }

    /** 3 of 4, 2, 1: the first decides thrice, each of the others once. */
    private static void knownCouncil() {
        OppositionInBaskets x = chamber(4, 3, 2, 1);
        due.is("often(0)", x.often(0), 3);
        due.is("often(1)", x.often(1), 1);
        due.is("often(2)", x.often(2), 1);
        due.is("power(0, 0)", x.power(0, 0), 2);
        due.is("power(0, 1)", x.power(0, 1), 3);
        due.is("power(1, 0)", x.power(1, 0), 1);
        due.is("power(1, 1)", x.power(1, 1), 6);
        due.is("fewest(0)", x.fewest(0), 3);
        due.is("fewest(1)", x.fewest(1), 2);
        due.is("fewest(2)", x.fewest(2), 3);
        OppositionInBaskets y = chamber(3, 3, 0);
        due.is("one who never decides", y.often(1), 0);
        due.is("0 above the line", y.power(1, 0), 0);
        due.is("1 below the line", y.power(1, 1), 1);
        due.is("one who always decides", y.often(0), 2);
        due.is("1 above the line", y.power(0, 0), 1);
        due.is("1 below the line", y.power(0, 1), 1);
    }

    private static void refusals() {
        OppositionInBaskets x = chamber(2, 1, 1, 1);
        x.set(6, 1, 1);
        for (int p : new int[] {-1, 1, 3, 8, Integer.MIN_VALUE, Integer.MAX_VALUE}) {
            due.is("often(" + p + ")", x.often(p), -2);
            due.is("torn(" + p + ")", x.torn(p), -2);
            due.is("power(" + p + ", 0)", x.power(p, 0), OppositionInBaskets.NO);
            due.is("power(" + p + ", 1)", x.power(p, 1), OppositionInBaskets.NO);
            due.is("goesWith(" + p + ", 0)", x.goesWith(p, 0), p == 1 ? 0 : -2);
        }
        for (int w : new int[] {-1, 2, Integer.MIN_VALUE, Integer.MAX_VALUE}) {
            due.is("power(0, " + w + ")", x.power(0, w), OppositionInBaskets.NO);
            due.is("stop(0, " + w + ")", x.stop(0, w), -2);
            due.is("goesWith(0, " + w + ")", x.goesWith(0, w), -2);
            due.is("fewest(" + w + ")", x.fewest(w), w == 2 ? 1 : -2);
        }
        due.is("fewest(3)", x.fewest(3), -2);
        due.is("stop(-1, 0)", x.stop(-1, 0), -2);
        due.is("stop(8, 0)", x.stop(8, 0), -2);
        x.set(1, 0, 3);
        due.is("no order wins", x.power(0, 0), OppositionInBaskets.NO);
        due.is("no order wins", x.power(0, 1), OppositionInBaskets.NO);
        due.is("often(0), when none wins", x.often(0), 0);
        due.is("torn(0), when none wins", x.torn(0), 0);
    }

    /** Power and often, counted by walking through all orders and all sets. */
    private static void againstAllOrders() {
        int[][] weights = {{1}, {9, 1}, {5, 4, 3}, {9, 0, 0, 2}, {4, 4, 4, 1, 1}, {9, 7, 5, 3, 2, 1}, {2, 2, 2, 2, 2, 2, 2},
            {9, 8, 7, 6, 5, 4, 3, 2}};
        for (int[] w : weights) {
            int all = 0;
            for (int one : w) {
                all += one;
            }
            for (int needed : new int[] {1, 2, all / 2 + 1, all}) {
                OppositionInBaskets x = chamber(needed, w);
                for (int p = 0; p < w.length; p++) {
                    int[] orders = new int[2];
                    walk(w, new ArrayList<>(), p, needed, orders);
                    int common = common(orders[0], orders[1]);
                    long no = OppositionInBaskets.NO;
                    due.is("power(" + p + ", 0)", x.power(p, 0), all < needed ? no : orders[0] / common);
                    due.is("power(" + p + ", 1)", x.power(p, 1), all < needed ? no : orders[1] / common);
                    due.is("often(" + p + ")", x.often(p), often(w, p, needed));
                }
            }
        }
    }

    private static void walk(int[] w, List<Integer> order, int p, int needed, int[] orders) {
        if (order.size() == w.length) {
            orders[1]++;
            int sum = 0;
            for (int one : order) {
                if (sum < needed && sum + w[one] >= needed && one == p) {
                    orders[0]++;
                }
                sum += w[one];
            }
            return;
        }
        for (int i = 0; i < w.length; i++) {
            if (!order.contains(i)) {
                order.add(i);
                walk(w, order, p, needed, orders);
                order.remove(order.size() - 1);
            }
        }
    }

    private static int common(int a, int b) {
        return b == 0 ? a : common(b, a % b);
    }

    private static int often(int[] w, int p, int needed) {
        int times = 0;
        for (int set = 0; set < 1 << w.length; set++) {
            int sum = 0;
            for (int i = 0; i < w.length; i++) {
                sum += (set >> i & 1) * w[i];
            }
            if ((set >> p & 1) == 1 && sum >= needed && sum - w[p] < needed) {
                times++;
            }
        }
        return times;
    }

    private static void torn() {
        int[][] weights = {{1}, {7}, {9, 1}, {5, 4, 3}, {9, 7, 5, 3, 2, 1}, {9, 8, 7, 6, 5, 4, 3, 2}};
        for (int[] w : weights) {
            for (int needed = 1; needed < 30; needed += 4) {
                OppositionInBaskets x = chamber(needed, w);
                for (int p = 0; p < w.length; p++) {
                    int[] apart = java.util.Arrays.copyOf(w, w.length + 1);
                    apart[p] = w[p] / 2;
                    apart[w.length] = w[p] - w[p] / 2;
                    int want = often(apart, p, needed) + often(apart, w.length, needed);
                    due.is("torn(" + p + ")", x.torn(p), want);
                }
            }
        }
        OppositionInBaskets x = chamber(3, 3, 3);
        due.is("torn(0)", x.torn(0), 2);
        x.set(6, 1, 1);
        due.is("torn(0) without a burnt one", x.torn(0), 2);
        due.is("often(0) without a burnt one", x.often(0), 1);
    }

    private static void fewest() {
        OppositionInBaskets x = chamber(9, 5, 4, 4, 5, 9);
        due.is("one alone", x.fewest(0), 16);
        due.is("how many", x.fewest(1), 1);
        x.set(6, 4, 1);
        due.is("of like ones the least", x.fewest(0), 3);
        due.is("how many", x.fewest(1), 2);
        due.is("how many win", x.fewest(2), 10);
        x.set(6, 0, 1);
        due.is("without a burnt one", x.fewest(0), 10);
        due.is("how many win", x.fewest(2), 3);
        x.set(1, 0, 14);
        due.is("none", x.fewest(0), -1);
        due.is("none", x.fewest(1), -1);
        due.is("none", x.fewest(2), 0);
        x.set(1, 0, 13);
        due.is("all", x.fewest(0), 14);
        due.is("all", x.fewest(1), 3);
        OppositionInBaskets y = chamber(8, 1, 1, 1, 1, 1, 1, 1, 1);
        due.is("all eight", y.fewest(0), 255);
        due.is("all eight", y.fewest(1), 8);
        due.is("they alone", y.fewest(2), 1);
        y.set(1, 0, 1);
        due.is("all eight must go", y.stop(0, 0), 255);
        due.is("all eight must go", y.stop(0, 1), 8);
    }

    private static void stop() {
        OppositionInBaskets x = chamber(6, 3, 4, 4, 1);
        x.set(3, 3, -1);
        due.is("11 for, 1 against: two of them", x.stop(0, 0), 3);
        due.is("how many", x.stop(0, 1), 2);
        x.set(1, 0, 9);
        due.is("one is enough: the least", x.stop(0, 0), 1);
        due.is("how many", x.stop(0, 1), 1);
        x.set(1, 0, 8);
        due.is("only a heavy one", x.stop(7, 0), 2);
        x.set(1, 0, 12);
        due.is("it isn't carried", x.stop(0, 0), 0);
        due.is("how many", x.stop(0, 1), 0);
        x.set(1, 0, 1);
        x.set(2, 3, 7);
        due.is("not more than against", x.stop(0, 0), 2);
        x.set(2, 3, 8);
        due.is("3 less is not more than 8", x.stop(0, 0), 1);
        x.set(3, 3, 0);
        due.is("all must go", x.stop(0, 0), 7);
        due.is("how many", x.stop(0, 1), 3);
        x.set(6, 1, 1);
        due.is("one is burnt already", x.stop(0, 0), 5);
        OppositionInBaskets y = Due.ruled("feels topic-number;weighs 1;smooths 0;");
        y.paper(0, 2, 0);
        y.paper(0, 4, 0);
        y.paper(0, 1, 0);
        y.set(1, 0, 1);
        // topic 3: papers 0 and 2 for, 1 against; topic 4: 1 doesn't vote
        int[] want = {0, 0, 0, 1, 5, 7, 7, 7};
        for (int t = 0; t < 8; t++) {
            due.is("stop(" + t + ", 0)", y.stop(t, 0), want[t]);
        }
    }

    private static void goesWith() {
        // votes of a number n: against the topics before n, for those behind it
        OppositionInBaskets x = Due.ruled("feels topic-number;weighs 1;smooths 0;");
        x.paper(0, 0, 0);
        due.is("alone", x.goesWith(0, 0), -1);
        due.is("alone", x.goesWith(0, 1), -1);
        x.paper(0, 9, 0);
        due.is("with the only other", x.goesWith(0, 0), 1);
        due.is("on none", x.goesWith(0, 1), 0);
        x.paper(0, 2, 0);
        x.paper(0, 1, 0);
        x.paper(0, 1, 0);
        due.is("the nearest", x.goesWith(0, 0), 3);
        due.is("on 6", x.goesWith(0, 1), 6);
        due.is("its like: on topic 1 neither votes", x.goesWith(3, 0), 4);
        due.is("on all", x.goesWith(3, 1), 8);
        due.is("of like ones the first", x.goesWith(2, 0), 3);
        due.is("on 6", x.goesWith(2, 1), 6);
        due.is("both ways", x.goesWith(1, 0), 2);
        due.is("on 2", x.goesWith(1, 1), 2);
        x.set(6, 3, 1);
        due.is("not a burnt one", x.goesWith(0, 0), 4);
        due.is("one that is burnt doesn't vote", x.goesWith(3, 1), 1);
        due.is("as paper 0 on topic 0", x.goesWith(3, 0), 0);
        x.set(2, 0, 9);
        due.is("as paper 2 on topic 2", x.goesWith(3, 0), 2);
        due.is("goesWith(5, 0)", x.goesWith(5, 0), -2);
    }
}
