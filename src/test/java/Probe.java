import java.util.ArrayList;
import java.util.EnumMap;
import java.util.List;
import java.util.Map;

/** What all later calls answer of an object, in parts of fewer than 200 calls, each for an object of its own. */
final class Probe {
    static final int PARTS = 10;
    private static final Map<State, String[][]> KEPT = new EnumMap<>(State.class);

    private final OppositionInBaskets x;
    private final List<String> answers = new ArrayList<>();

    private Probe(OppositionInBaskets x) {
        this.x = x;
    }

    /** The first call of a part that an object answers otherwise than one that was just made in the state; null. */
    static String difference(int part, OppositionInBaskets x, State s) {
        String[] want = KEPT.computeIfAbsent(s, k -> new String[PARTS][])[part];
        if (want == null) {
            want = ask(part, s.make());
            KEPT.get(s)[part] = want;
        }
        String[] got = ask(part, x);
        for (int i = 0; i < want.length; i++) {
            if (!got[i].equals(want[i])) {
                return got[i] + ", without it " + want[i];
            }
        }
        return null;
    }

    private static String[] ask(int part, OppositionInBaskets x) {
        Probe p = new Probe(x);
        switch (part) {
            case 0 -> p.plainly();
            case 1 -> p.feelings();
            case 2 -> p.divisions();
            case 3 -> p.tape();
            case 4 -> {
                p.add("back()", x.back());
                p.plainly();
            }
            case 5 -> p.sizes();
            default -> p.items(part - 6);
        }
        return p.answers.toArray(new String[0]);
    }

    private void add(String call, long answer) {
        answers.add(call + " answers " + answer);
    }

    private void plainly() {
        for (int what = 0; what < 6; what++) {
            add("count(" + what + ")", x.count(what));
        }
        for (int p = 0; p < 9; p++) {
            for (int what = 0; what < 10; what++) {
                add("told(" + p + ", " + what + ")", x.told(p, what));
            }
        }
    }

    private void feelings() {
        for (int p = 0; p < 8; p++) {
            for (int t = 0; t < 8; t++) {
                add("told(" + p + ", " + (10 + t) + ")", x.told(p, 10 + t));
                add("told(" + p + ", " + (20 + t) + ")", x.told(p, 20 + t));
            }
        }
    }

    private void divisions() {
        for (int t = 0; t < 8; t++) {
            for (int what = 0; what < 6; what++) {
                add("division(" + t + ", " + what + ")", x.division(t, what));
            }
            add("stop(" + t + ", 0)", x.stop(t, 0));
        }
        for (int p = 0; p < 8; p++) {
            add("often(" + p + ")", x.often(p));
            add("torn(" + p + ")", x.torn(p));
            add("power(" + p + ", 0)", x.power(p, 0));
            add("goesWith(" + p + ", 0)", x.goesWith(p, 0));
            add("goesWith(" + p + ", 1)", x.goesWith(p, 1));
        }
        for (int what = 0; what < 3; what++) {
            add("topics(" + what + ")", x.topics(what));
            add("fewest(" + what + ")", x.fewest(what));
            add("run(" + 9 * what + ", 8)", x.run(9 * what, 8));
        }
        add("drawn(1, 20)", x.drawn(1, 20));
        add("chance(1, 7, 2, 0)", x.chance(1, 7, 2, 0));
        add("day()", x.day());
        add("force(0)", x.force(0));
    }

    /** The tape is read back by what a text of it tells, be it whole already or after some more bytes. */
    private void tape() {
        String rest = "smooths 6;";
        for (int i = 0; i < rest.length(); i++) {
            add("feed", x.feed(rest.charAt(i)));
        }
        add("text()", x.text());
        add("count(3)", x.count(3));
        for (int t = 1; t < 6; t++) {
            add("force(" + t + ")", x.force(t));
            for (int what = 8; what < 11; what++) {
                add("told(0, " + what + ")", x.told(0, what));
            }
        }
    }

    /** A number that is copied to its own place tells that there is such a place. */
    private void sizes() {
        for (int s = 0; s < 4; s++) {
            for (int i = 0; i < 41; i++) {
                add("copy(" + s + ", " + i + ", " + s + ", " + i + ", 1)", x.copy(s, i, s, i, 1));
            }
        }
    }

    private void items(int sheet) {
        for (int what = 0; what < 8; what++) {
            add("tells(" + sheet + ", 0, " + what + ")", x.tells(sheet, 0, what));
        }
        add("back()", x.back());
        for (int sort = 0; sort < 3; sort++) {
            add("papers(" + sheet + ", " + sort + ", 0, 8)", x.papers(sheet, sort, 0, 8));
        }
        for (int p = 0; p < 8; p++) {
            for (int what : new int[] {2, 3, 7}) {
                add("told(" + p + ", " + what + ")", x.told(p, what));
            }
        }
    }
}
