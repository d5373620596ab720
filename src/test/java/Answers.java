import java.util.function.IntToLongFunction;

/** Counts the answers that are not as due, and ends a test. */
final class Answers {
    private int asked;
    private int wrong;
    private String sentence = "";

    /**
     * The words of the document that the answers from here on hold to: of a promise, or (0) of what stands ahead of
     * the promises. SentencesTest looks for them in the document.
     */
    void sentence(int promise, String words) {
        sentence = " (" + promise + ": " + words + ")";
    }

    void due(String call, long got, long want) {
        asked++;
        if (got != want) {
            wrong++;
            System.out.println(call + " answered " + got + ", due is " + want + sentence);
        }
    }

    void holds(String what, boolean right) {
        asked++;
        if (!right) {
            wrong++;
            System.out.println("not so: " + what + sentence);
        }
    }

    /** What at() tells of a REEL from HOUR 0 on; a figure of want for each HOUR. */
    void row(String name, StringReels x, int reel, int what, String want) {
        for (int hour = 0; hour < want.length(); hour++) {
            due(name + ": at " + hour + " " + reel + " " + what, x.at(hour, reel, what), want.charAt(hour) - '0');
        }
    }

    /** A number is taken from least to most, and BAD beside them and far away. */
    void taken(String call, IntToLongFunction f, int least, int most) {
        taken(call, f, least, most, StringReels.BAD);
    }

    void taken(String call, IntToLongFunction f, int least, int most, long refusal) {
        for (int n = least; n <= most; n++) {
            holds(call + " takes " + n, f.applyAsLong(n) != refusal);
        }
        for (int n : new int[] {least - 1, most + 1, Integer.MIN_VALUE, Integer.MAX_VALUE}) {
            due(call + " of " + n, f.applyAsLong(n), refusal);
        }
    }

    void end() {
        System.out.println(asked + " answers, " + wrong + " not as due");
        if (wrong != 0) {
            System.exit(1);
        }
    }

    /** A new object with these texts. */
    static StringReels told(String reels, String hands, String flicks) {
        StringReels x = new StringReels();
        type(x, 0, reels);
        type(x, 1, hands);
        type(x, 2, flicks);
        return x;
    }

    static void type(StringReels x, int text, String bytes) {
        for (char c : bytes.toCharArray()) {
            x.type(text, c);
        }
    }

    /** A SHEET with these items. */
    static void lay(StringReels x, int s, int form, int... values) {
        x.sheet(s, form, values.length);
        for (int i = 0; i < values.length; i++) {
            x.lay(s, form, i, values[i]);
        }
    }

    /** Parts with ; between them: so many times one. */
    static String times(int n, String one) {
        return String.join(";", java.util.Collections.nCopies(n, one));
    }
}
