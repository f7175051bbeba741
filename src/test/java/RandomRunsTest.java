import java.util.Random;

/** Random runs of calls of all promises, each answer held against the model's. The seeds are fixed. */
public final class RandomRunsTest {
    private static final int RUNS = 1500;
    /** An object's first 512 calls are promised; a step makes three at most. */
    private static final int CALLS = 512, OF_A_STEP = 3;
    private static final Due due = new Due();
    private static Random random;
    private static OppositionInBaskets x;
    private static Model m;
    private static String waiting;

    public static void main(String[] args) {
        int runs = args.length > 0 ? Integer.parseInt(args[0]) : RUNS;
        int first = args.length > 1 ? Integer.parseInt(args[1]) : 0;
        for (int run = first; run < first + runs && !due.anyWrong(); run++) {
            random = new Random(run);
            x = new OppositionInBaskets();
            m = new Model();
            waiting = "";
            int before = due.asked();
            for (int step = 0; due.asked() - before <= CALLS - OF_A_STEP && !due.anyWrong(); step++) {
                step("run " + run + ", step " + step + ": ");
            }
        }
        due.end();
    }

    private static int pick(int least, int greatest) {
        return least + random.nextInt(greatest - least + 1);
    }

    /** Mostly one of a range, at times one beside it, seldom one far outside. */
    private static int near(int least, int greatest) {
        int odds = random.nextInt(40);
        if (odds == 0) {
            return random.nextBoolean() ? least - 1 : greatest + 1;
        }
        if (odds == 1 && random.nextInt(4) == 0) {
            int[] far = {Integer.MIN_VALUE, Integer.MAX_VALUE, random.nextInt()};
            return far[random.nextInt(3)];
        }
        return pick(least, greatest);
    }

    private static int somePaper() {
        return near(0, Math.max(0, m.notes.size() - 1));
    }

    private static void step(String at) {
        if (!waiting.isEmpty()) {
            int c = waiting.charAt(0);
            waiting = waiting.substring(1);
            due.is(at + "feed(" + c + ")", x.feed(c), m.feed(c));
            if (waiting.isEmpty()) {
                int want = m.text();
                due.is(at + "text()", x.text(), want);
                if (want > 0 && random.nextInt(3) > 0) {
                    due.is(at + "force(" + want + ")", x.force(want), m.force(want));
                }
            }
            return;
        }
        int group = random.nextInt(100);
        if (group < 30) {
            papers(at);
        } else if (group < 36) {
            texts(at);
        } else if (group < 55) {
            divisions(at);
        } else if (group < 70) {
            decides(at);
        } else if (group < 85) {
            toldCalls(at);
        } else {
            host(at);
        }
    }

    private static void papers(String at) {
        int a = pick(0, 9);
        if (a < 4) {
            int what = near(0, 6);
            int of = somePaper();
            int v = what < 0 || what > 6 ? 0
                : what == 1 && random.nextInt(5) > 0 ? near(1, 30)
                : what == 6 && random.nextInt(3) > 0 ? 0 : near(Model.LEAST[what], Model.GREATEST[what]);
            due.is(at + "set(" + what + ", " + of + ", " + v + ")", x.set(what, of, v), m.set(what, of, v));
        } else if (a < 6) {
            int kind = near(0, 5);
            int number = near(0, 9);
            int mood = near(-9, 9);
            due.is(at + "paper(" + kind + ", " + number + ", " + mood + ")", x.paper(kind, number, mood), m.paper(kind, number, mood));
        } else if (a < 9 || random.nextInt(4) > 0) {
            int of = somePaper();
            int what = near(0, 27);
            due.is(at + "told(" + of + ", " + what + ")", x.told(of, what), m.told(of, what));
        } else {
            int desk = near(0, 3);
            due.is(at + "burn(" + desk + ")", x.burn(desk), m.burn(desk));
        }
    }

    private static void texts(String at) {
        int a = pick(0, 9);
        if (a < 4) {
            waiting = someText();
        } else if (a < 5) {
            int letter = near(0, 255);
            due.is(at + "feed(" + letter + ")", x.feed(letter), m.feed(letter));
        } else if (a < 6) {
            due.is(at + "text()", x.text(), m.text());
        } else {
            int text = near(0, m.rules.size() - 1);
            due.is(at + "force(" + text + ")", x.force(text), m.force(text));
        }
    }

    private static String someText() {
        String text = "feels " + some(3) + blank() + ";weighs " + some(2) + ";" + blank() + "smooths " + some(2) + ";";
        if (random.nextInt(3) > 0) {
            return text;
        }
        int place = random.nextInt(text.length());
        String[] odd = {"?", "not ", "-", "(", ")", "12345", " or ", "", ";", "moo ", "A", "<", "+", "feels"};
        int behind = Math.min(text.length(), place + random.nextInt(3));
        return text.substring(0, place) + odd[random.nextInt(odd.length)] + text.substring(behind);
    }

    private static String blank() {
        return random.nextInt(3) > 0 ? "" : random.nextBoolean() ? " " : "\n ";
    }

    private static String some(int depth) {
        String[] names = {"crumpled", "number", "topic", "mood", "day", "desk", "topic", "mood", "number"};
        String[] joins = {"+", "-", "*", "<", "=", " or ", " and ", "-", "+"};
        if (depth == 0 || random.nextInt(4) == 0) {
            return random.nextInt(3) == 0 ? "" + random.nextInt(random.nextInt(5) == 0 ? 10000 : 20) : names[random.nextInt(9)];
        }
        int form = random.nextInt(8);
        if (form == 0) {
            return blank() + "-" + blank() + some(depth - 1);
        }
        if (form == 1) {
            return "(not " + some(depth - 1) + ")" + blank();
        }
        if (form == 2) {
            return "(" + some(depth - 1) + ")";
        }
        return some(depth - 1) + blank() + joins[random.nextInt(9)] + some(depth - 1);
    }

    private static void divisions(String at) {
        int a = pick(0, 11);
        if (a < 6) {
            int topic = near(0, 7);
            int what = near(0, 5);
            due.is(at + "division(" + topic + ", " + what + ")", x.division(topic, what), m.division(topic, what));
        } else if (a < 8) {
            int what = near(0, 2);
            due.is(at + "topics(" + what + ")", x.topics(what), m.topics(what));
        } else if (a < 9) {
            due.is(at + "day()", x.day(), m.day());
        } else {
            int n = near(0, 40);
            int what = near(0, 8);
            due.is(at + "run(" + n + ", " + what + ")", x.run(n, what), m.run(n, what));
        }
    }

    private static void decides(String at) {
        int p = somePaper();
        int what = near(0, 1);
        int topic = near(0, 7);
        switch (pick(0, 5)) {
            case 0 -> due.is(at + "often(" + p + ")", x.often(p), m.often(p));
            case 1 -> {
                // the model walks through all orders: that is slow with eight
                if (m.notes.size() < 8 || random.nextInt(8) == 0) {
                    due.is(at + "power(" + p + ", " + what + ")", x.power(p, what), m.power(p, what));
                }
            }
            case 2 -> due.is(at + "torn(" + p + ")", x.torn(p), m.torn(p));
            case 3 -> {
                int of = near(0, 2);
                due.is(at + "fewest(" + of + ")", x.fewest(of), m.fewest(of));
            }
            case 4 -> due.is(at + "stop(" + topic + ", " + what + ")", x.stop(topic, what), m.stop(topic, what));
            default -> due.is(at + "goesWith(" + p + ", " + what + ")", x.goesWith(p, what), m.goesWith(p, what));
        }
    }

    private static void toldCalls(String at) {
        int sheet = near(0, 3);
        int p = somePaper();
        switch (pick(0, 9)) {
            case 0, 1, 2 -> {
                int what = near(0, 7);
                due.is(at + "tells(" + sheet + ", " + p + ", " + what + ")", x.tells(sheet, p, what), m.tells(sheet, p, what));
            }
            case 3, 4 -> due.is(at + "film(" + sheet + ", " + p + ")", x.film(sheet, p), m.film(sheet, p));
            case 5 -> {
                int seed = random.nextInt();
                int n = near(0, 99);
                due.is(at + "drawn(" + seed + ", " + n + ")", x.drawn(seed, n), m.drawn(seed, n));
            }
            case 6 -> {
                int seed = random.nextBoolean() ? random.nextInt() : Integer.MAX_VALUE - 3;
                int n = near(1, 20);
                int k = near(0, 5);
                int part = near(0, 1);
                due.is(at + "chance(" + seed + ", " + n + ", " + k + ", " + part + ")", x.chance(seed, n, k, part), m.chance(seed, n, k, part));
            }
            case 7 -> {
                int what = near(0, 5);
                due.is(at + "count(" + what + ")", x.count(what), m.count(what));
            }
            case 8 -> {
                if (random.nextInt(3) == 0) {
                    due.is(at + "image()", x.image(), m.image());
                }
            }
            default -> {
                if (random.nextInt(3) == 0) {
                    due.is(at + "back()", x.back(), m.back());
                }
            }
        }
    }

    private static void host(String at) {
        int sheet = near(0, 3);
        int i = near(0, 12);
        switch (pick(0, 9)) {
            case 0 -> {
                int sort = near(-1, 2);
                int n = random.nextBoolean() ? 8 : near(0, 40);
                due.is(at + "sheet(" + sheet + ", " + sort + ", " + n + ")", x.sheet(sheet, sort, n), m.sheet(sheet, sort, n));
            }
            case 1, 2, 3, 4 -> {
                int v = random.nextInt(6) == 0 ? random.nextInt() : near(-1, 5);
                due.is(at + "cell(" + sheet + ", " + i + ", " + v + ")", x.cell(sheet, i, v), m.cell(sheet, i, v));
            }
            case 5, 6 -> {
                int other = near(0, 3);
                int j = near(0, 5);
                int n = near(0, 6);
                due.is(at + "copy(" + sheet + ", " + i + ", " + other + ", " + j + ", " + n + ")",
                    x.copy(sheet, i, other, j, n), m.copy(sheet, i, other, j, n));
            }
            case 7 -> {
                int sort = near(0, 2);
                int n = near(0, 8);
                due.is(at + "papers(" + sheet + ", " + sort + ", " + i + ", " + n + ")", x.papers(sheet, sort, i, n), m.papers(sheet, sort, i, n));
            }
            default -> {
                int p = somePaper();
                int k = near(0, 5);
                due.is(at + "taken(" + p + ", " + k + ")", x.taken(p, k), m.taken(p, k));
            }
        }
    }
}
