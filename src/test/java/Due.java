/** Counts the calls whose answer is not the one that is due. */
final class Due {
    private int asked;
    private int wrong;

    void is(String call, long got, long want) {
        asked++;
        if (got != want) {
            wrong++;
            if (wrong <= 50) {
                System.out.println(call + " answered " + got + ", due is " + want);
            }
        }
    }

    void holds(String what, boolean is) {
        asked++;
        if (!is) {
            wrong++;
            System.out.println("does not hold: " + what);
        }
    }

    int asked() {
        return asked;
    }

    boolean anyWrong() {
        return wrong > 0;
    }

    void end() {
        System.out.println(asked + " asked, " + wrong + " not as due");
        if (wrong > 0) {
            System.exit(1);
        }
    }

    /** Feeds a text to an object and answers what text() does. */
    static int read(OppositionInBaskets x, String text) {
        for (int i = 0; i < text.length(); i++) {
            x.feed(text.charAt(i));
        }
        return x.text();
    }

    /** A new object whose rule is a text. */
    static OppositionInBaskets ruled(String text) {
        OppositionInBaskets x = new OppositionInBaskets();
        int number = read(x, text);
        if (number < 0 || x.force(number) != 0) {
            throw new IllegalStateException("not a text: " + text + " (" + number + ")");
        }
        return x;
    }
}
