/** Promises 27 to 30: kinds of hints, asks and their trace. */
public final class AsksTest {
    private static final int MIN = Integer.MIN_VALUE, MAX = Integer.MAX_VALUE;
    private static final String FIVE = "k7,6,5;s3,0;g5,0;w4,0;m2,0;d1,0;n7,9,0;n7,9,0;n7,9,0;";

    public static void main(String[] args) {
        kinds();
        taken();
        asks();
        asksOfShownOnes();
        refusals();
        Due.finish();
    }

    private static void kinds() {
        AilingKing x = Due.castle(FIVE, 3);
        for (int h = 0; h < 5; h++) {
            Due.due("kind " + h, x.kind(h), h + 1);
        }
        int[] no = {-1, 5, 8, MIN, MAX};
        for (int none : no) {
            Due.due("kind of none", x.kind(none), Due.BAD);
            Due.due("as of none", x.as(none, 0), Due.BAD);
            Due.due("ask of none", x.ask(none, 0), Due.BAD);
        }
    }

    private static void taken() {
        AilingKing x = Due.castle(FIVE, 3);
        int[] is = {1 | 2, 1 | 2 | 4, 1 | 2 | 8, 1 | 16, 1 | 16 | 32};
        for (int h = 0; h < 5; h++) {
            for (int kind = 0; kind < 6; kind++) {
                boolean isOne = (is[h] >> kind & 1) != 0;
                Due.due("as " + h + " " + kind, x.as(h, kind), isOne ? h : Due.KIND);
                Due.due("status then", x.status(), isOne ? 0 : 3);
                Due.due("kind stays", x.kind(h), h + 1);
            }
            Due.due("kind 6", x.as(h, 6), Due.BAD);
            Due.due("kind -1", x.as(h, -1), Due.BAD);
        }
    }

    private static void ask(AilingKing x, int hint, int what, int gives, int... bodies) {
        Due.due("ask " + hint + " " + what, x.ask(hint, what), gives);
        for (int i = 0; i < bodies.length; i++) {
            Due.due("trace of " + hint + " " + what + " at " + i, x.trace(i), bodies[i]);
        }
        for (int i = bodies.length; i < 20; i++) {
            Due.due("trace ends", x.trace(i), Due.NONE);
        }
        Due.due("trace -1", x.trace(-1), Due.NONE);
        Due.due("trace MIN", x.trace(MIN), Due.NONE);
        Due.due("trace MAX", x.trace(MAX), Due.NONE);
    }

    private static void asks() {
        AilingKing x = Due.castle(FIVE, 3);
        ask(x, 0, 0, 3, 11, 10, 21, 20);
        ask(x, 0, 1, 3, 21, 20);
        ask(x, 1, 0, -12, 12, 11, 10, 24, 21, 20);
        ask(x, 1, 1, 12, 24, 21, 20);
        ask(x, 2, 0, -994, 11, 10, 22, 21, 20);
        ask(x, 2, 1, -994, 22, 21, 20);
        ask(x, 3, 0, -100, 13, 10);
        ask(x, 3, 1, 103, 23, 20, 13, 10);
        ask(x, 4, 0, -200, 14, 13, 10);
        ask(x, 4, 1, 204, 23, 20, 14, 13, 10);
    }

    private static void asksOfShownOnes() {
        AilingKing x = Due.castle(FIVE, 3);
        for (int g = 0; g < 3; g++) {
            x.invite(g);
            for (int h = 0; h < 5; h++) {
                x.show(h);
            }
            x.speak();
        }
        ask(x, 0, 0, 6, 11, 10, 21, 20);
        ask(x, 1, 0, -15, 12, 11, 10, 24, 21, 20);
        ask(x, 2, 0, -991, 11, 10, 22, 21, 20);
        ask(x, 3, 0, -97, 13, 10);
        ask(x, 3, 1, 100, 23, 20, 13, 10);
        ask(x, 4, 0, -194, 14, 13, 10);
        ask(x, 4, 1, 198, 23, 20, 14, 13, 10);
    }

    private static void refusals() {
        AilingKing x = Due.castle(FIVE, 3);
        x.ask(3, 1);
        Due.due("what 2", x.ask(0, 2), Due.BAD);
        Due.due("what -1", x.ask(0, -1), Due.BAD);
        Due.due("hint 5", x.ask(5, 0), Due.BAD);
        Due.due("the trace stays", x.trace(0), 23);
        Due.due("the trace stays", x.trace(3), 10);
        x.as(0, 1);
        Due.due("status is not an ask's", x.ask(0, 0), 3);
        x.as(0, 2);
        x.ask(0, 0);
        Due.due("status stays", x.status(), 3);
    }
}
