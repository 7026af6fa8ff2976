/** Counts the answers that are not the ones due, and prints each of them. */
final class Due {
    static final int NONE = AilingKing.NONE, BAD = AilingKing.BAD, STATE = AilingKing.STATE, FULL = AilingKing.FULL;
    static final int NULL = -1000011, PLACE = -1000012, KIND = -1000013, SIZE = -1000014, STORE = -1000015;
    static final int MIN = Integer.MIN_VALUE, MAX = Integer.MAX_VALUE;
    private static int wrong = 0;
    private static int looked = 0;
    private static String sentence = "";

    private Due() {
    }

    /** What the document says of the answers from here on, for those who read that one is not as due. */
    static void sentence(String words) {
        sentence = words + ": ";
    }

    static void due(String call, long got, long want) {
        looked++;
        if (got != want) {
            wrong++;
            System.out.println(sentence + call + " answered " + got + ", due is " + want);
        }
    }

    static void feed(AilingKing x, String text) {
        for (int i = 0; i < text.length(); i++) {
            due("feed of " + text, x.feed(text.charAt(i)), i + 1);
        }
    }

    /** A castle of a text, which must be read with so many guests. */
    static AilingKing castle(String text, int guests) {
        AilingKing x = new AilingKing();
        feed(x, text);
        due("castle of " + text, x.castle(), guests);
        return x;
    }

    /** Nearly tells here which of the hints 0 to 5 a stretch of a row has: each leads a guest of its own to QUESTION. */
    static AilingKing seer() {
        return castle("k7,6,1;s0,7;s1,7;s2,7;s3,7;s4,7;s5,7;n0,1,0;n1,1,0;n2,1,0;n3,1,0;n4,1,0;n5,1,0;", 6);
    }

    /** Items 0 to 5 of a row, looked at with a seer. */
    static void items(AilingKing x, int row, int... items) {
        for (int i = 0; i < items.length; i++) {
            due("item " + i + " of row " + row, x.nearly(row, i, 1), 1 << items[i]);
        }
    }

    static void finish() {
        System.out.println(looked + " answers, " + wrong + " not as due");
        if (wrong != 0 || looked == 0) {
            System.exit(1);
        }
    }
}
