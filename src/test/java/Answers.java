/** Counts the answers that are not as due, and ends a test. */
final class Answers {
    private int asked;
    private int wrong;

    void due(String call, long got, long want) {
        asked++;
        if (got != want) {
            wrong++;
            System.out.println(call + " answered " + got + ", due is " + want);
        }
    }

    void holds(String what, boolean right) {
        asked++;
        if (!right) {
            wrong++;
            System.out.println("not so: " + what);
        }
    }

    void end() {
        System.out.println(asked + " answers, " + wrong + " not as due");
        if (wrong != 0) {
            System.exit(1);
        }
    }

    /** A new object with these texts. */
    static StringReels told(String reels, String hands, String flicks) {
        StringReels x = new StringReels();
        type(x, 0, reels);
        type(x, 1, hands);
        type(x, 2, flicks);
        return x;
    }

    static void type(StringReels x, int text, String bytes) {
        for (char c : bytes.toCharArray()) {
            x.type(text, c);
        }
    }
}
