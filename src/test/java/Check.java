/** Counts and prints the answers that are not as due; each test ends by calling end(). */
final class Check {
    private static int asked = 0;
    private static int wrong = 0;

    private Check() {
    }

    static void due(String call, long got, long want) {
        asked++;
        if (got != want) {
            wrong++;
            System.out.println(call + " answered " + got + ", due is " + want);
        }
    }

    static void due(String call, boolean got, boolean want) {
        due(call, got ? 1L : 0L, want ? 1L : 0L);
    }

    static boolean isWrong() {
        return wrong > 0;
    }

    static void end() {
        System.out.println(asked + " answers, " + wrong + " not as due");
        if (wrong > 0 || asked == 0) {
            System.exit(1);
        }
    }

    /** Feeds a text as the tape takes it, filled up with blanks to twenty bytes, and has it read as rules. */
    static int rules(PloughField field, String text) {
        feed(field, text);
        return field.rules(text.length());
    }

    static void feed(PloughField field, String text) {
        for (int from = 0; from < text.length(); from += 20) {
            feedTwenty(field, text.substring(from, Math.min(text.length(), from + 20)));
        }
    }

    /** One call of feed with up to twenty bytes, filled up with blanks. */
    static int feedTwenty(PloughField field, String text) {
        return field.feed(four(text, 0), four(text, 4), four(text, 8), four(text, 12), four(text, 16));
    }

    private static int four(String text, int from) {
        int number = 0;
        for (int i = from; i < from + 4; i++) {
            number = number << 8 | (i < text.length() ? text.charAt(i) & 255 : ' ');
        }
        return number;
    }
}
