/** Counts the answers that are not the ones due, and prints each of them. */
final class Due {
    static final int NONE = AilingKing.NONE, BAD = AilingKing.BAD, STATE = AilingKing.STATE, FULL = AilingKing.FULL;
    static final int NULL = -1000011, PLACE = -1000012, KIND = -1000013, SIZE = -1000014, STORE = -1000015;
    private static int wrong = 0;
    private static int looked = 0;

    private Due() {
    }

    static void due(String call, long got, long want) {
        looked++;
        if (got != want) {
            wrong++;
            System.out.println(call + " answered " + got + ", due is " + want);
        }
    }

    static void feed(AilingKing x, String text) {
        for (int i = 0; i < text.length(); i++) {
            due("feed of " + text, x.feed(text.charAt(i)), i + 1);
        }
    }

    /** A castle of a text, which must be read with so many guests. */
    static AilingKing castle(String text, int guests) {
        AilingKing x = new AilingKing();
        feed(x, text);
        due("castle of " + text, x.castle(), guests);
        return x;
    }

    static void finish() {
        System.out.println(looked + " answers, " + wrong + " not as due");
        if (wrong != 0 || looked == 0) {
            System.exit(1);
        }
    }
}
