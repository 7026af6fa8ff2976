/** Promises 1 and 6 to 8, and TEXTS, FAULTS of Terms: each sentence that names a boundary, inside, at, and beyond it. */
public final class TextEdgesTest {
    private static final int MIN = Due.MIN, MAX = Due.MAX;
    private static final String LAW = "k0,1,1;";
    private static final String EIGHT = LAW + "s0,1;s0,1;s0,1;s0,1;s0,1;s0,1;s0,1;s0,1;";
    private static final String SIX = "n0,0,0;n0,0,0;n0,0,0;n0,0,0;n0,0,0;n0,0,0;";
    private static final String OF_120 = LAW + "s00,01;".repeat(8) + "n00,00,00;".repeat(5) + "n7,1,8;";

    public static void main(String[] args) {
        noCastle();
        bytes();
        tapeOf120();
        tapeOf120IsRead();
        tapeIsEmptyThen();
        lettersByThemselves();
        figures();
        numbersOfTwoFigures();
        runsOfThreeFigures();
        nothingElse();
        lawNumbers();
        hintNumbers();
        guestNumbers();
        unlikeThoughts();
        eightHints();
        sixGuests();
        hintsAheadOfGuests();
        theEnd();
        theEndOf120Bytes();
        firstToken();
        leastOfOneToken();
        latestFault();
        faultChangesNothingElse();
        anotherCastle();
        Due.finish();
    }

    /** Where the fault of a text is, and its number. */
    private static void read(String text, int place, int number) {
        AilingKing x = new AilingKing();
        Due.feed(x, text);
        Due.due("castle of " + text, x.castle(), -1000100 - place);
        Due.due("fault of " + text, x.fault(), number);
        Due.due("tape after " + text, x.count(8), 0);
        Due.due("no castle after " + text, x.bestGuest(0), Due.STATE);
        Due.due("no hints after " + text, x.count(1), 0);
        Due.due("no guests after " + text, x.count(2), 0);
    }

    private static void noCastle() {
        Due.sentence("A new object: No CASTLE");
        AilingKing x = new AilingKing();
        int[] counts = {0, 0, 0, -1, 0, 0, 0, 0, 0};
        for (int what = 0; what < counts.length; what++) {
            Due.due("count " + what, x.count(what), counts[what]);
        }
        int[] bad = {x.invite(0), x.show(0), x.tale(0, 1), x.guest(0, 0), x.hint(0, 0), x.leads(0, 0),
            x.route(0, 0, -1), x.thinkable(0), x.chance(0, 0, 0), x.taught(0), x.kind(0), x.as(0, 0), x.ask(0, 0)};
        for (int answer : bad) {
            Due.due("there is no such thing", answer, Due.BAD);
        }
        int[] state = {x.speak(), x.undo(), x.bestGuest(0), x.cover(0), x.spoilt(0), x.nearly(0, 0, 0), x.image(0),
            x.restore(0), x.bestGuest(2), x.cover(-1), x.spoilt(2), x.nearly(8, 0, 0), x.nearly(0, 0, 9)};
        for (int answer : state) {
            Due.due("no CASTLE", answer, Due.STATE);
        }
        Due.due("fault", x.fault(), 0);
        Due.due("status", x.status(), 0);
        Due.due("trace", x.trace(0), Due.NONE);
    }

    private static void bytes() {
        Due.sentence("A byte (0 to 255) comes behind the tape: how many it has");
        AilingKing x = new AilingKing();
        int[] none = {-1, 256, MIN, MAX};
        for (int letter : none) {
            Due.due("feed " + letter, x.feed(letter), Due.BAD);
        }
        Due.due("no byte", x.count(8), 0);
        Due.due("feed 0", x.feed(0), 1);
        Due.due("feed 255", x.feed(255), 2);
        Due.due("feed 256", x.feed(256), Due.BAD);
        Due.due("two bytes", x.count(8), 2);
    }

    private static void tapeOf120() {
        Due.sentence("THE TAPE has at most 120 bytes");
        AilingKing x = new AilingKing();
        for (int n = 1; n <= 120; n++) {
            Due.due("feed", x.feed('k'), n);
        }
        Due.due("full", x.feed('k'), Due.FULL);
        Due.due("full yet", x.feed(0), Due.FULL);
        Due.due("BAD ahead of FULL", x.feed(256), Due.BAD);
        Due.due("BAD ahead of FULL", x.feed(-1), Due.BAD);
        Due.due("bytes", x.count(8), 120);
        Due.due("read", x.castle(), -1000101);
        Due.due("room again", x.feed('k'), 1);
    }

    private static void tapeOf120IsRead() {
        Due.sentence("THE TAPE has at most 120 bytes, that come one by one");
        Due.due("how long the text is", OF_120.length(), 120);
        AilingKing x = new AilingKing();
        Due.feed(x, OF_120);
        Due.due("one more", x.feed(';'), Due.FULL);
        Due.due("read to its last byte", x.castle(), 6);
        int[] last = {7, 1, 8};
        for (int what = 0; what < 3; what++) {
            Due.due("the last guest's " + what, x.guest(5, what), last[what]);
        }
    }

    private static void tapeIsEmptyThen() {
        Due.sentence("The tape, empty then, is read");
        AilingKing x = Due.castle(LAW, 0);
        Due.due("bytes", x.count(8), 0);
        Due.due("nothing is left", x.castle(), -1000100);
        Due.due("the castle stays", x.cover(0), 0);
        x.feed('k');
        x.feed('0');
        Due.due("a fault", x.castle(), -1000102);
        Due.due("bytes", x.count(8), 0);
        Due.due("from the first byte on", x.feed('k'), 1);
        Due.due("a fault", x.castle(), -1000101);
        Due.feed(x, LAW + "n3,4,5;");
        Due.due("a castle", x.castle(), 1);
    }

    private static void lettersByThemselves() {
        Due.sentence("letters a to z (each by itself)");
        read("kk0,1,1;", 1, 1);
        read(LAW + "ss0,1;", 8, 1);
        read(LAW + "sn0,1;", 8, 1);
        read(LAW + "nn0,0,0;", 8, 1);
        for (char letter = 0; letter < 256; letter++) {
            if (letter != 'k') {
                read(String.valueOf(letter) + "0,1,1;", 0, 1);
            }
            if ("sgwmdn".indexOf(letter) < 0) {
                read(LAW + letter + "0,1;", 7, 1);
            } else {
                read(LAW + letter, 8, 1);
            }
        }
    }

    private static void figures() {
        Due.sentence("NUMBERS (figures");
        for (char letter = 0; letter < 256; letter++) {
            boolean isFigure = letter >= '0' && letter <= '9';
            boolean isThought = letter >= '0' && letter <= '7';
            read("k" + letter, isThought ? 2 : 1, isFigure && !isThought ? 2 : 1);
            read("k0,1,1;n1,1" + letter, isFigure || letter == ',' ? 12 : 11, 1);
        }
    }

    private static void numbersOfTwoFigures() {
        Due.sentence("NUMBERS (figures, 2 at most)");
        AilingKing x = Due.castle("k07,06,01;s05,04;n03,09,08;", 1);
        int[] answers = {x.hint(0, 0), x.hint(0, 1), x.guest(0, 0), x.guest(0, 1), x.guest(0, 2)};
        int[] due = {5, 4, 3, 9, 8};
        for (int i = 0; i < due.length; i++) {
            Due.due("number " + i, answers[i], due[i]);
        }
        x.invite(0);
        x.show(0);
        Due.due("LIMIT 01", x.show(0), Due.STATE);
        x = Due.castle("k0,1,1;n0,10,19;n0,20,00;n0,00,20;", 3);
        int[][] hearts = {{10, 19}, {20, 0}, {0, 20}};
        for (int g = 0; g < 3; g++) {
            Due.due("FEAR " + g, x.guest(g, 1), hearts[g][0]);
            Due.due("BOLD " + g, x.guest(g, 2), hearts[g][1]);
        }
    }

    private static void runsOfThreeFigures() {
        Due.sentence("1 it .. is none (a run of three figures or more, at its first");
        String[] parts = {"k", "0", ",", "1", ",", "1", ";s", "2", ",", "3", ";n", "4", ",", "5", ",", "6", ";"};
        String[] runs = {"000", "001", "0000", "012", "100", "999", "0123456789"};
        for (int part = 1; part < parts.length; part += 2) {
            StringBuilder ahead = new StringBuilder();
            StringBuilder behind = new StringBuilder();
            for (int p = 0; p < parts.length; p++) {
                (p < part ? ahead : behind).append(p == part ? "" : parts[p]);
            }
            for (String run : runs) {
                read(ahead + run + behind, ahead.length(), 1);
                read(ahead + run, ahead.length(), 1);
            }
            AilingKing x = Due.castle(ahead + "0" + parts[part] + behind, 1);
            Due.due("two figures", x.count(1), 1);
        }
        read(LAW + "000", 7, 1);
        read("000", 0, 1);
    }

    private static void nothingElse() {
        Due.sentence("SIGNS , and ; nothing else, no blanks");
        String text = "k0,1,1;s0,1;n0,0,0;";
        char[] others = {' ', '\n', '\t', 0, 255, '.', ':', '-', '+', '/', 'A', 'Z', 'K', '`', '{', '@', '['};
        for (char other : others) {
            for (int place = 0; place <= text.length(); place++) {
                read(text.substring(0, place) + other + text.substring(place), place, 1);
            }
        }
        read("k0;1,1;", 2, 1);
        read("k0,1;1;", 4, 1);
        read("k0,1,1,", 6, 1);
        read(LAW + "s0;1;", 9, 1);
        read(LAW + "s0,1,", 11, 1);
        read(LAW + "n0;0,0;", 9, 1);
        read(LAW + "n0,0;0;", 11, 1);
        read(LAW + "n0,0,0,", 13, 1);
        read(LAW + ",", 7, 1);
        read(LAW + ";", 7, 1);
        read(LAW + "s0,1;;", 12, 1);
        read(LAW + "n0,0,0;;", 14, 1);
    }

    /** A text with % where each of these numbers stands once; those that are told are read, the others are faults. */
    private static void number(String text, int least, int most) {
        int place = text.indexOf('%');
        int[] tried = {0, 1, 4, 5, 6, 7, 8, 9, 10, 19, 20, 21, 22, 80, 99};
        for (int n : tried) {
            String told = text.replace("%", String.valueOf(n));
            if (n < least || n > most) {
                read(told, place, 2);
                read(text.substring(0, place) + n, place, 2);
            } else {
                Due.castle(told, text.indexOf('n') < 0 ? 0 : 1);
            }
        }
    }

    private static void lawNumbers() {
        Due.sentence("law: k QUESTION , WRONG , LIMIT ; (unlike THOUGHTS, 0 to 7; 1 to 5)");
        number("k%,2,1;", 0, 7);
        number("k2,%,1;", 0, 7);
        number("k0,1,%;", 1, 5);
        for (int limit = 1; limit <= 5; limit++) {
            AilingKing x = Due.castle("k0,1," + limit + ";s5,6;s5,6;s5,6;s5,6;s5,6;s5,6;n5,0,0;", 1);
            x.invite(0);
            for (int h = 0; h < 6; h++) {
                Due.due("LIMIT " + limit, x.show(h), h < limit ? 6 : Due.FULL);
            }
        }
        for (int thought = 0; thought < 8; thought++) {
            AilingKing x = Due.castle("k" + thought + "," + (thought + 1) % 8 + ",1;n" + thought + ",0,0;n"
                + (thought + 1) % 8 + ",0,0;", 2);
            x.invite(1);
            Due.due("WRONG", x.speak(), (thought + 1) % 8);
            Due.due("WORSE", x.count(5), 1);
            x.invite(0);
            Due.due("QUESTION", x.speak(), thought);
            Due.due("healed", x.count(4), 1);
        }
    }

    private static void hintNumbers() {
        Due.sentence("hint: SORT FROM , TO ; (unlike THOUGHTS");
        for (char sort : "sgwmd".toCharArray()) {
            number(LAW + sort + "%,2;", 0, 7);
            number(LAW + sort + "2,%;", 0, 7);
            for (int from = 0; from < 8; from++) {
                AilingKing x = Due.castle(LAW + sort + from + "," + (7 - from) + ";", 0);
                Due.due("FROM", x.hint(0, 0), from);
                Due.due("TO", x.hint(0, 1), 7 - from);
                Due.due("KIND", x.kind(0), "sgwmd".indexOf(sort) + 1);
            }
        }
    }

    private static void guestNumbers() {
        Due.sentence("guest: n MIND , FEAR , BOLD ; (a THOUGHT; 0 to 20; 0 to 20");
        number(LAW + "n%,3,3;", 0, 7);
        number(LAW + "n3,%,3;", 0, 20);
        number(LAW + "n3,3,%;", 0, 20);
        int[][] told = {{0, 0, 20}, {7, 20, 0}, {1, 19, 1}, {6, 1, 19}};
        for (int[] one : told) {
            AilingKing x = Due.castle(LAW + "n" + one[0] + "," + one[1] + "," + one[2] + ";", 1);
            for (int what = 0; what < 3; what++) {
                Due.due("guest " + what, x.guest(0, what), one[what]);
            }
        }
    }

    private static void unlikeThoughts() {
        Due.sentence("unlike THOUGHTS");
        for (int thought = 0; thought < 8; thought++) {
            read("k" + thought + "," + thought + ",1;", 3, 2);
            read("k0" + thought + "," + thought + ",1;", 4, 2);
            read("k" + thought + ",0" + thought + ",1;", 3, 2);
            for (char sort : "sgwmd".toCharArray()) {
                read(LAW + sort + thought + "," + thought + ";", 10, 2);
            }
            int other = (thought + 1) % 8;
            Due.castle("k" + thought + "," + other + ",1;s" + thought + "," + other + ";", 0);
            Due.castle("k" + other + "," + thought + ",1;s" + other + "," + thought + ";", 0);
        }
        Due.castle("k1,2,1;n1,1,1;", 1);
    }

    private static void eightHints() {
        Due.sentence("HINTS 0 .. 7, 8 at most; 3 a hint more than there is room for (its letter)");
        StringBuilder text = new StringBuilder(LAW);
        for (int hints = 0; hints <= 8; hints++) {
            AilingKing x = Due.castle(text.toString(), 0);
            Due.due("hints", x.count(1), hints);
            Due.due("the last", x.kind(hints - 1), hints > 0 ? 2 : Due.BAD);
            Due.due("one beyond", x.kind(hints), Due.BAD);
            text.append("g5,3;");
        }
        for (char sort : "sgwmd".toCharArray()) {
            read(EIGHT + sort, 47, 3);
            read(EIGHT + sort + "0,1;", 47, 3);
            read(EIGHT + sort + "x", 47, 3);
            read(EIGHT.substring(0, 42) + sort, 43, 1);
        }
        AilingKing x = Due.castle(EIGHT + "n0,0,0;", 1);
        Due.due("eight and a guest", x.count(1), 8);
    }

    private static void sixGuests() {
        Due.sentence("GUESTS 0 .. 5, 6 at most; 3 a guest more than there is room for (its letter)");
        StringBuilder text = new StringBuilder(LAW);
        for (int guests = 0; guests <= 6; guests++) {
            AilingKing x = Due.castle(text.toString(), guests);
            Due.due("guests", x.count(2), guests);
            Due.due("the last", x.taught(guests - 1), guests > 0 ? 4 : Due.BAD);
            Due.due("one beyond", x.taught(guests), Due.BAD);
            text.append("n3,6,2;");
        }
        read(LAW + SIX + "n", 49, 3);
        read(LAW + SIX + "n0,0,0;", 49, 3);
        read(LAW + SIX + "nn", 49, 3);
        read(EIGHT + SIX + "n", 89, 3);
        read(LAW + SIX.substring(7) + "n", 43, 1);
        Due.castle(EIGHT + SIX, 6);
    }

    private static void hintsAheadOfGuests() {
        Due.sentence("castle: law { hint } { guest }");
        Due.castle(LAW, 0);
        Due.castle(LAW + "s0,1;", 0);
        Due.castle(LAW + "n0,0,0;", 1);
        for (char sort : "sgwmd".toCharArray()) {
            read(LAW + "n0,0,0;" + sort + "0,1;", 14, 1);
            read(LAW + "s0,1;n0,0,0;" + sort + "0,1;", 19, 1);
            read(LAW + SIX + sort + "0,1;", 49, 1);
        }
        read(LAW + LAW, 7, 1);
        read(LAW + "s0,1;" + LAW, 12, 1);
        read(LAW + "n0,0,0;" + LAW, 14, 1);
        read("s0,1;" + LAW, 0, 1);
        read("n0,0,0;" + LAW, 0, 1);
        read(LAW + "s0,1;" + "5", 12, 1);
        read(LAW + "n0,0,0;" + "5", 14, 1);
    }

    private static void theEnd() {
        Due.sentence("1 (.. the end: how many bytes there are)");
        String text = "k0,1,1;s0,1;n2,10,20;";
        for (int length = 0; length < text.length(); length++) {
            if (length == 7 || length == 12) {
                Due.castle(text.substring(0, length), 0);
            } else {
                read(text.substring(0, length), length, 1);
            }
        }
        Due.castle(text, 1);
    }

    private static void theEndOf120Bytes() {
        Due.sentence("-1000100 less the place of a FAULT");
        read("", 0, 1);
        read("x", 0, 1);
        read("kx", 1, 1);
        read(OF_120.substring(0, 119), 119, 1);
        read(OF_120.substring(0, 119) + "x", 119, 1);
        read(OF_120.substring(0, 119) + "0", 118, 2);
        read(OF_120.replace("k0", "k00").substring(0, 120), 120, 1);
        read(OF_120.substring(0, 117) + "000", 116, 1);
    }

    private static void firstToken() {
        Due.sentence("FAULTS, the first TOKEN that has one");
        read("k8,8,0;", 1, 2);
        read("k0,8,0;", 3, 2);
        read("k0,0,0;", 3, 2);
        read("k0,1,0;x", 5, 2);
        read("k0,1,6x", 5, 2);
        read("x0,0,0;", 0, 1);
        read("k0,1,1;s8,8;", 8, 2);
        read("k0,1,1;s1,1;x", 10, 2);
        read("k0,1,1;n8,21,21;", 8, 2);
        read("k0,1,1;n1,21,21;", 10, 2);
        read("k0,1,1;n1,1,21;n", 12, 2);
        read(EIGHT + "s8,8;x", 47, 3);
        read(EIGHT.substring(0, 45) + "8;s", 45, 2);
    }

    private static void leastOfOneToken() {
        Due.sentence("of one TOKEN the least");
        read("k888,1,1;", 1, 1);
        read("k0,888,1;", 3, 1);
        read("k0,1,999;", 5, 1);
        read("k0,000,1;", 3, 1);
        read(EIGHT + "n0,0,0;s", 54, 1);
        read(EIGHT + SIX + "s", 89, 1);
        read(EIGHT + "9", 47, 1);
        read(EIGHT + "k", 47, 1);
        read(LAW + SIX + "s", 49, 1);
    }

    private static void latestFault() {
        Due.sentence("The number of the latest FAULT; 0 before one");
        AilingKing x = new AilingKing();
        Due.due("before one", x.fault(), 0);
        Due.feed(x, LAW);
        Due.due("none", x.castle(), 0);
        Due.due("before one", x.fault(), 0);
        String[] texts = {"k8", LAW + SIX + "n", "", EIGHT + "s", "k0,0", "x"};
        int[] places = {1, 49, 0, 47, 3, 0};
        int[] numbers = {2, 3, 1, 3, 2, 1};
        for (int i = 0; i < texts.length; i++) {
            Due.feed(x, texts[i]);
            Due.due("castle of " + texts[i], x.castle(), -1000100 - places[i]);
            Due.due("fault of " + texts[i], x.fault(), numbers[i]);
            Due.feed(x, LAW);
            Due.due("not yet read", x.fault(), numbers[i]);
            Due.due("none", x.castle(), 0);
            Due.due("the latest one", x.fault(), numbers[i]);
        }
    }

    private static void faultChangesNothingElse() {
        Due.sentence("all but the tape, that is empty then, and what fault() tells stays");
        String[] texts = {"k5,4,5;s1,2;g3,4;n4,9,9;n4,9,9;n4,9,9;x", "k5,4,5;m1,1", "k5,4,5;d8", "k", ""};
        int[] places = {38, 10, 8, 1, 0};
        for (int t = 0; t < texts.length; t++) {
            AilingKing x = Due.castle("k7,6,2;s0,3;w3,7;n1,2,2;n0,3,3;n3,0,4;", 3);
            x.row(1, 1, 4);
            x.image(0);
            x.invite(1);
            x.show(0);
            x.ask(1, 1);
            x.as(0, 5);
            Due.feed(x, texts[t]);
            Due.due("castle of " + texts[t], x.castle(), -1000100 - places[t]);
            int[] counts = {1, 2, 3, 1, 0, 0, 1, 2, 0};
            for (int what = 0; what < counts.length; what++) {
                Due.due("count " + what, x.count(what), counts[what]);
            }
            int[] answers = {x.kind(0), x.kind(1), x.hint(0, 2), x.hint(1, 1), x.guest(0, 1), x.guest(1, 0),
                x.guest(2, 2), x.trace(0), x.trace(1), x.status(), x.route(1, 1, 0), x.show(1), x.show(0), x.speak(),
                x.undo(), x.undo(), x.undo(), x.undo(), x.undo(), x.restore(0), x.count(3), x.restore(1), x.drop(1)};
            int[] due = {1, 3, 1, 7, 2, 3, 4, 22, 21, 3, 1, 7, Due.STATE, 7, 3, 2, 1, 0, Due.STATE, 1, -1, Due.STATE, 4};
            for (int i = 0; i < due.length; i++) {
                Due.due("answer " + i, answers[i], due[i]);
            }
        }
    }

    /** An object whose castle was much used: one heard, one here, hints shown, acts, an image, a row. */
    private static AilingKing used() {
        AilingKing x = Due.castle("k7,6,2;s0,6;w1,7;n0,2,2;n1,3,3;n2,0,4;", 3);
        x.row(1, 1, 4);
        x.invite(0);
        x.show(0);
        x.speak();
        x.image(1);
        x.tale(2, 5);
        x.invite(1);
        x.show(1);
        return x;
    }

    private static void anotherCastle() {
        Due.sentence("A CASTLE that is read stands in place of the one before");
        AilingKing x = used();
        Due.feed(x, "k7,6,2;s0,6;w1,7;n0,2,2;n1,3,3;n2,0,4;");
        Due.due("castle", x.castle(), 3);
        Due.due("nobody is HERE", x.count(3), -1);
        Due.due("nothing this evening", x.count(6), 0);
        Due.due("nothing is WORSE", x.count(5), 0);
        Due.due("no ACT can be undone", x.count(7), 0);
        Due.due("no ACT can be undone", x.undo(), Due.STATE);
        for (int g = 0; g < 3; g++) {
            Due.due("nobody has BEEN", x.guest(g, 3), 0);
            Due.due("asked nothing", x.guest(g, 4), Due.NONE);
            Due.due("MIND as told", x.guest(g, 0), g);
        }
        Due.due("BOLD as told", x.guest(2, 2), 4);
        for (int h = 0; h < 2; h++) {
            Due.due("no HINT was SHOWN", x.hint(h, 2), 0);
            Due.due("nor this evening", x.hint(h, 3), 0);
        }
        Due.due("ROWS stay", x.drop(1), 4);
        x.invite(1);
        x.show(1);
        Due.due("healed", x.speak(), 7);
        Due.feed(x, LAW + "n5,0,0;");
        Due.due("castle", x.castle(), 1);
        Due.due("the king is sick", x.count(4), 0);
        Due.due("invited", x.invite(0), 5);
        Due.due("no hints", x.count(1), 0);
        Due.due("IMAGES stay", x.restore(1), 1);
        Due.due("three guests again", x.count(2), 3);
        Due.due("WORSE again", x.count(5), 1);
    }
}
