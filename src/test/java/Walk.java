import java.io.IOException;
import java.nio.file.Files;
import java.nio.file.Path;

/**
 * A walk through the document, from its first line to its last: each piece is named where it stands, none may be left out, and
 * of each that says something a call at least is held to it.
 */
final class Walk {
    private static final Path DOCUMENT = Path.of("../shared/DOC.md");
    private static final int MOST_CALLS = 512;

    private final String document = Files.exists(DOCUMENT) ? plain(Files.readString(DOCUMENT)) : null;
    private int at;
    private String piece = "";
    private int askedOfPiece = 1;
    private int pieces;
    private int asked;
    private int wrong;
    private OppositionInBaskets x;
    private int calls;

    Walk() throws IOException {
    }

    private static String plain(String text) {
        return text.replaceAll("\\s+", " ").trim();
    }

    /** A piece that says something: what is asked until the next one is held against it. */
    void says(String words) {
        passes(words);
        askedOfPiece = 0;
    }

    /** A piece that asks for nothing that could be tested. */
    void passes(String words) {
        if (askedOfPiece == 0) {
            tell("nothing was asked of it");
        }
        askedOfPiece = 1;
        piece = words;
        pieces++;
        if (document == null) {
            return;
        }
        while (at < document.length() && document.charAt(at) == ' ') {
            at++;
        }
        if (document.startsWith(plain(words), at)) {
            at += plain(words).length();
        } else {
            tell("is not what stands here: " + document.substring(at, Math.min(document.length(), at + 60)));
            int found = document.indexOf(plain(words));
            at = found < 0 ? at : found + plain(words).length();
        }
    }

    private void tell(String what) {
        wrong++;
        if (wrong <= 50) {
            System.out.println("(" + piece + ") " + what);
        }
    }

    void is(String what, long got, long want) {
        asked++;
        askedOfPiece++;
        if (got != want) {
            tell(what + " answered " + got + ", due is " + want);
        }
    }

    void holds(String what, boolean is) {
        asked++;
        askedOfPiece++;
        if (!is) {
            tell("does not hold: " + what);
        }
    }

    /** Calls of a new object, each with the answer that is due: "paper(0, 4, 3)=0 | count(0)=1". */
    void run(String... lines) {
        x = new OppositionInBaskets();
        calls = 0;
        then(lines);
    }

    /** Calls of a new object whose rule is a text. */
    void ruled(String text, String... lines) {
        run("read(" + text + ")=1 | force(1)=0");
        then(lines);
    }

    /** The run goes on. */
    void then(String... lines) {
        for (String line : lines) {
            for (String one : line.split(" \\| ")) {
                int cut = one.lastIndexOf('=');
                String call = one.substring(0, cut).trim();
                calls += Calls.taken(call);
                if (calls > MOST_CALLS) {
                    throw new IllegalStateException("an object is used for at most " + MOST_CALLS + " calls: " + piece);
                }
                is(call, Calls.answer(x, call), Long.parseLong(one.substring(cut + 1).trim()));
            }
        }
    }

    /** What a text's E tells of a DRAFT of NUMBER 4 and MOOD 3 on TOPIC 2. */
    void value(String e, int v) {
        ruled("feels " + e + ";weighs 1;smooths 1;", "paper(0, 4, 3)=0");
        then("told(0, 12)=" + v);
    }

    void fault(String text, int place) {
        run("read(" + text + ")=" + (-100 - place), "count(4)=0 | count(3)=1");
    }

    void end() {
        passes("");
        if (document != null && at < document.length()) {
            tell("this was left out: " + document.substring(at));
        }
        System.out.println(asked + " asked of " + pieces + " pieces, " + wrong + " not as due");
        if (wrong > 0) {
            System.exit(1);
        }
    }
}
