import java.io.IOException;
import java.nio.file.Files;
import java.nio.file.Path;
import java.util.ArrayList;
import java.util.List;
import java.util.Set;
import java.util.TreeSet;

/** Holds answers to one sentence of the document at a time; where one is not as due, it names the promise and the sentence. */
final class Edge {
    /** A call of one object, with its arguments. */
    interface Call {
        long on(OppositionInBaskets x);
    }

    static final int MIN = Integer.MIN_VALUE, MAX = Integer.MAX_VALUE;
    static final int NONE = -1, BAD = -2, STATE = -3, FULL = -4, NOTHING = -11, OUTSIDE = -12, UNLIKE = -13, BELOW = -14;
    static final int NONE_SUCH = -1000;
    static final long NO = -4611686018427387904L;
    private static final Path DOCUMENT = Path.of("../shared/DOC.md");

    private final String document = Files.exists(DOCUMENT) ? plain(Files.readString(DOCUMENT)) : null;
    private final Set<Integer> promises = new TreeSet<>();
    private String promise = "";
    private String sentence = "";
    private int sentences;
    private int asked;
    private int wrong;

    Edge() throws IOException {
    }

    private static String plain(String text) {
        return text.replaceAll("\\s+", " ");
    }

    void promise(int number, String name) {
        promises.add(number);
        promise = number == 0 ? name : "Promise " + number + ": " + name;
        stands(number == 0 ? "## " + name : "## " + promise);
    }

    /** What comes is held against this sentence, which the document must have. */
    void says(String sentence) {
        this.sentence = sentence;
        sentences++;
        stands(sentence);
    }

    private void stands(String words) {
        if (document != null && !document.contains(plain(words))) {
            tell("the document doesn't say: " + words);
        }
    }

    private void tell(String what) {
        wrong++;
        if (wrong <= 50) {
            System.out.println(promise + " (" + sentence + ") " + what);
        }
    }

    void is(String call, long got, long want) {
        asked++;
        if (got != want) {
            tell(call + " answered " + got + ", due is " + want);
        }
    }

    /** In each of the states the call is answered so, and changes nothing. */
    void leaves(String call, Call c, long want, State... states) {
        for (State s : states) {
            is(call + " in the state " + s, c.on(s.make()), want);
            leaves(call, c, s);
        }
    }

    /** The call changes nothing: later calls answer what they do without it. */
    void leaves(String call, Call c, State s) {
        for (int part = 0; part < Probe.PARTS; part++) {
            OppositionInBaskets x = s.make();
            c.on(x);
            asked++;
            String changed = Probe.difference(part, x, s);
            if (changed != null) {
                tell(call + " in the state " + s + " changed something: later " + changed);
            }
        }
    }

    /** Numbers that a range doesn't have: the first ones on both sides, those far outside, and some with the same lowest 16 bits. */
    static int[] outside(int least, int greatest) {
        return new int[] {least - 1, greatest + 1, MIN, MIN + 1, MAX - 1, MAX, least - 65536, greatest + 65536};
    }

    void end() {
        List<Integer> missing = new ArrayList<>();
        for (int i = 1; i <= 30; i++) {
            if (!promises.contains(i)) {
                missing.add(i);
            }
        }
        if (!missing.isEmpty()) {
            tell("no edge of these promises is tested: " + missing);
        }
        System.out.println(asked + " asked of " + sentences + " sentences, " + wrong + " not as due");
        if (wrong > 0) {
            System.exit(1);
        }
    }
}
