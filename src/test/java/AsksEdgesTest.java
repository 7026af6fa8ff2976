/** Promises 27 to 30 and 32, KINDS and section 4 of Terms: each sentence that names a boundary, inside, at, beyond. */
public final class AsksEdgesTest {
    private static final int MIN = Due.MIN, MAX = Due.MAX;
    private static final String SORTS = "sgwmd";

    public static void main(String[] args) {
        kindsAsTold();
        kindsOfEightHints();
        oneOfAKind();
        asRefusals();
        asChangesNothing();
        howOftenItWasShown();
        theNumber();
        bodiesOfSize();
        bodiesOfMark();
        askRefusals();
        traceBeginsAnew();
        traceStaysWhenBad();
        placesOfTheTrace();
        traceOverOtherCalls();
        Due.finish();
    }

    private static void kindsAsTold() {
        Due.sentence("The KIND of a HINT, as told (1 to 5). BAD");
        for (int sort = 0; sort < 5; sort++) {
            AilingKing x = Due.castle("k7,6,1;" + SORTS.charAt(sort) + "0,1;", 0);
            Due.due("kind", x.kind(0), sort + 1);
            int[] none = {-1, 1, 2, 8, MIN, MAX};
            for (int hint : none) {
                Due.due("hint " + hint, x.kind(hint), Due.BAD);
            }
        }
        Due.due("no hints", Due.castle("k7,6,1;n0,0,0;", 1).kind(0), Due.BAD);
        Due.due("no CASTLE", new AilingKing().kind(0), Due.BAD);
    }

    private static void kindsOfEightHints() {
        Due.sentence("HINTS 0 .. 7");
        AilingKing x = Due.castle("k7,6,1;d0,1;m0,1;w0,1;g0,1;s0,1;d0,1;m0,1;w0,1;", 0);
        int[] kinds = {5, 4, 3, 2, 1, 5, 4, 3};
        for (int h = 0; h < 8; h++) {
            Due.due("kind " + h, x.kind(h), kinds[h]);
            Due.due("as " + h, x.as(h, kinds[h]), h);
            Due.due("ask " + h, x.ask(h, 1) == Due.BAD ? 1 : 0, 0);
        }
        Due.due("kind 8", x.kind(8), Due.BAD);
        Due.due("as 8", x.as(8, 0), Due.BAD);
        Due.due("ask 8", x.ask(8, 1), Due.BAD);
    }

    private static void oneOfAKind() {
        Due.sentence("KINDS: 1 SILENT, a HINT; 2 SUNG, 3 WORN, a SILENT one; 4 MISTAKEN, a HINT; 5 DOUBLE, a MISTAKEN one");
        String[] is = {"110000", "111000", "110100", "100010", "100011"};
        for (int sort = 0; sort < 5; sort++) {
            AilingKing x = Due.castle("k7,6,1;s0,1;" + SORTS.charAt(sort) + "0,1;", 0);
            for (int kind = 0; kind <= 5; kind++) {
                boolean isOne = is[sort].charAt(kind) == '1';
                Due.due("as " + (sort + 1) + " of KIND " + kind, x.as(1, kind), isOne ? 1 : Due.KIND);
                Due.due("status", x.status(), isOne ? 0 : 3);
            }
        }
    }

    private static void asRefusals() {
        Due.sentence("A HINT is taken as one of a KIND (0 .. 5). BAD; KIND: it is no such one");
        AilingKing x = Due.castle("k7,6,1;s0,1;d0,1;", 0);
        int[] none = {-1, 2, 8, MIN, MAX};
        int[] noKind = {-1, 6, 7, MIN, MAX};
        for (int number : none) {
            for (int kind = 0; kind <= 5; kind++) {
                Due.due("BAD ahead of KIND, hint " + number, x.as(number, kind), Due.BAD);
            }
        }
        for (int kind : noKind) {
            Due.due("kind " + kind, x.as(0, kind), Due.BAD);
            Due.due("kind " + kind, x.as(1, kind), Due.BAD);
        }
        Due.due("status", x.status(), 0);
        Due.due("0", x.as(1, 0), 1);
        Due.due("5", x.as(1, 5), 1);
        Due.due("5 of another", x.as(0, 5), Due.KIND);
        Due.due("no CASTLE", new AilingKing().as(0, 0), Due.BAD);
    }

    private static void asChangesNothing() {
        Due.sentence("By this it is asked: the BODY told for the KIND begins");
        for (int sort = 0; sort < 5; sort++) {
            AilingKing x = Due.castle("k7,6,1;" + SORTS.charAt(sort) + "3,1;", 0);
            int size = x.ask(0, 0);
            int mark = x.ask(0, 1);
            for (int kind = 0; kind <= 5; kind++) {
                x.as(0, kind);
                Due.due("kind then", x.kind(0), sort + 1);
                Due.due("SIZE then", x.ask(0, 0), size);
                Due.due("MARK then", x.ask(0, 1), mark);
            }
        }
    }

    private static void ask(AilingKing x, int hint, int what, int gives, int... bodies) {
        Due.due("ask " + hint + " " + what, x.ask(hint, what), gives);
        for (int i = 0; i < 8; i++) {
            Due.due("trace of ask " + hint + " " + what + " at " + i, x.trace(i),
                i < bodies.length ? bodies[i] : Due.NONE);
        }
    }

    private static void howOftenItWasShown() {
        Due.sentence("SIZE: 10: how often it was SHOWN");
        AilingKing x = Due.castle("k7,6,1;m0,1;n2,0,0;n2,0,0;n2,0,0;n2,0,0;n2,0,0;n2,0,0;", 6);
        for (int g = 0; g < 6; g++) {
            ask(x, 0, 0, g - 100, 13, 10);
            x.invite(g);
            ask(x, 0, 0, g - 100, 13, 10);
            x.show(0);
            ask(x, 0, 0, g - 99, 13, 10);
            x.undo();
            ask(x, 0, 0, g - 100, 13, 10);
            x.show(0);
            x.speak();
        }
        ask(x, 0, 0, -94, 13, 10);
    }

    private static void theNumber() {
        Due.sentence("MARK: 20: the number; 21: what 20 gives, and FROM");
        AilingKing x = Due.castle("k7,6,1;s0,1;s7,1;s3,1;s0,1;s0,1;s0,1;s0,1;s7,1;", 0);
        int[] marks = {0, 8, 5, 3, 4, 5, 6, 14};
        for (int h = 0; h < 8; h++) {
            ask(x, h, 1, marks[h], 21, 20);
            ask(x, h, 0, marks[h], 11, 10, 21, 20);
        }
    }

    private static void bodiesOfSize() {
        Due.sentence("SIZE of each KIND");
        AilingKing x = Due.castle("k7,6,5;s3,0;g7,0;w4,0;m2,0;d1,0;n7,9,0;n7,9,0;n7,9,0;", 3);
        for (int shown = 0; shown <= 3; shown++) {
            ask(x, 0, 0, shown + 3, 11, 10, 21, 20);
            ask(x, 1, 0, -(shown + 16), 12, 11, 10, 24, 21, 20);
            ask(x, 2, 0, shown - 994, 11, 10, 22, 21, 20);
            ask(x, 3, 0, shown - 100, 13, 10);
            ask(x, 4, 0, 2 * (shown - 100), 14, 13, 10);
            if (shown < 3) {
                x.invite(shown);
                for (int h = 0; h < 5; h++) {
                    x.show(h);
                }
                x.speak();
            }
        }
    }

    private static void bodiesOfMark() {
        Due.sentence("MARK of each KIND");
        AilingKing x = Due.castle("k7,6,5;s3,0;g7,0;w4,0;m2,0;d1,0;n7,9,0;n7,9,0;", 2);
        for (int shown = 0; shown <= 2; shown++) {
            ask(x, 0, 1, 3, 21, 20);
            ask(x, 1, 1, 16, 24, 21, 20);
            ask(x, 2, 1, -994, 22, 21, 20);
            ask(x, 3, 1, 103 - shown, 23, 20, 13, 10);
            ask(x, 4, 1, 204 - 2 * shown, 23, 20, 14, 13, 10);
            if (shown < 2) {
                x.invite(shown);
                for (int h = 0; h < 5; h++) {
                    x.show(h);
                }
                x.speak();
            }
        }
    }

    private static void askRefusals() {
        Due.sentence("An ASK (0, 1) of a HINT. BAD");
        AilingKing x = Due.castle("k7,6,5;s3,0;m2,0;", 0);
        int[] none = {-1, 2, 8, MIN, MAX};
        for (int number : none) {
            Due.due("hint " + number, x.ask(number, 0), Due.BAD);
            Due.due("hint " + number, x.ask(number, 1), Due.BAD);
            Due.due("what " + number, x.ask(0, number), Due.BAD);
            Due.due("what " + number, x.ask(1, number), Due.BAD);
        }
        Due.due("no trace yet", x.trace(0), Due.NONE);
        Due.due("no CASTLE", new AilingKing().ask(0, 0), Due.BAD);
    }

    private static void traceBeginsAnew() {
        Due.sentence("THE TRACE is empty ahead of it");
        AilingKing x = Due.castle("k7,6,5;s3,0;g7,0;", 0);
        ask(x, 1, 0, -16, 12, 11, 10, 24, 21, 20);
        ask(x, 0, 1, 3, 21, 20);
        ask(x, 1, 1, 16, 24, 21, 20);
        ask(x, 0, 0, 3, 11, 10, 21, 20);
    }

    private static void traceStaysWhenBad() {
        Due.sentence("BAD (THE TRACE stays then)");
        AilingKing x = Due.castle("k7,6,5;m2,0;s3,0;", 0);
        x.ask(0, 1);
        int[] bad = {x.ask(2, 0), x.ask(-1, 1), x.ask(1, 2), x.ask(1, -1), x.ask(MAX, MIN)};
        for (int answer : bad) {
            Due.due("ask", answer, Due.BAD);
        }
        int[] trace = {23, 20, 13, 10, Due.NONE};
        for (int i = 0; i < trace.length; i++) {
            Due.due("trace " + i, x.trace(i), trace[i]);
        }
    }

    private static void placesOfTheTrace() {
        Due.sentence("Number i of THE TRACE; NONE");
        AilingKing x = Due.castle("k7,6,5;s3,0;", 0);
        int[] none = {-1, 0, 1, 15, 16, 17, MIN, MAX};
        for (int i : none) {
            Due.due("nothing asked yet, " + i, x.trace(i), Due.NONE);
        }
        x.ask(0, 1);
        int[] beyond = {-1, 2, 3, 15, 16, 17, MIN, MAX};
        for (int i : beyond) {
            Due.due("beyond " + i, x.trace(i), Due.NONE);
        }
        Due.due("the first", x.trace(0), 21);
        Due.due("the last", x.trace(1), 20);
    }

    private static void traceOverOtherCalls() {
        Due.sentence("each of which leaves its number in THE TRACE as it begins");
        AilingKing x = Due.castle("k7,6,5;s3,0;n3,0,0;", 1);
        x.ask(0, 1);
        x.kind(0);
        x.as(0, 1);
        x.invite(0);
        x.show(0);
        x.speak();
        x.undo();
        x.row(0, 0, 1);
        x.drop(0);
        x.cover(0);
        x.leads(0, 0);
        x.image(1);
        x.restore(1);
        Due.feed(x, "k7,6,5;");
        x.castle();
        Due.due("the first", x.trace(0), 21);
        Due.due("the last", x.trace(1), 20);
        Due.due("no more", x.trace(2), Due.NONE);
    }
}
