/** Promises 1 to 5 and 32: rows and status. */
public final class RowsTest {
    private static final int MIN = Integer.MIN_VALUE, MAX = Integer.MAX_VALUE;

    public static void main(String[] args) {
        newObject();
        rowMakes();
        setKeepsTheLowestBits();
        copyMoves();
        copyRefusals();
        dropTakes();
        statusTells();
        statusOfNearly();
        Due.finish();
    }

    private static void newObject() {
        AilingKing x = new AilingKing();
        int[] counts = {0, 0, 0, -1, 0, 0, 0, 0, 0, Due.BAD};
        for (int what = 0; what < counts.length; what++) {
            Due.due("new count " + what, x.count(what), counts[what]);
        }
        for (int row = 0; row < 8; row++) {
            Due.due("new drop " + row, x.drop(row), Due.NULL);
        }
        Due.due("new fault", x.fault(), 0);
        Due.due("new trace", x.trace(0), Due.NONE);
        Due.due("new bestGuest", x.bestGuest(9), Due.STATE);
        Due.due("new cover", x.cover(9), Due.STATE);
        Due.due("new spoilt", x.spoilt(9), Due.STATE);
        Due.due("new nearly", x.nearly(-1, 0, 9), Due.STATE);
        Due.due("new image", x.image(0), Due.STATE);
        Due.due("new restore", x.restore(1), Due.STATE);
        Due.due("new undo", x.undo(), Due.STATE);
        Due.due("new speak", x.speak(), Due.STATE);
        Due.due("new status", new AilingKing().status(), 0);
    }

    private static void rowMakes() {
        AilingKing x = new AilingKing();
        Due.due("row -1", x.row(-1, 0, 1), Due.BAD);
        Due.due("row 8", x.row(8, 0, 1), Due.BAD);
        Due.due("lane -1", x.row(0, -1, 1), Due.BAD);
        Due.due("lane 3", x.row(0, 3, -1), Due.BAD);
        Due.due("n 41", x.row(0, 0, 41), Due.BAD);
        Due.due("n MAX", x.row(0, 0, MAX), Due.BAD);
        Due.due("n -1", x.row(0, 0, -1), Due.SIZE);
        Due.due("n MIN", x.row(0, 0, MIN), Due.SIZE);
        Due.due("no row yet", x.count(0), 0);
        Due.due("row of 0", x.row(0, 0, 0), 0);
        Due.due("row of 40", x.row(7, 2, 40), 40);
        Due.due("two rows", x.count(0), 2);
        Due.due("no place in none", x.set(0, 0, 1), Due.PLACE);
        for (int i = 0; i < 40; i++) {
            Due.due("set", x.set(7, i, i + 100000), i + 100000);
        }
        Due.due("found: the row stays", x.row(7, 0, -5), Due.SIZE);
        Due.due("copy of what stayed", x.row(1, 2, 1), 1);
        Due.due("still a row of ints", x.copy(7, 39, 1, 0, 1), 1);
        Due.due("in place", x.row(7, 0, 3), 3);
        Due.due("still three rows", x.count(0), 3);
        Due.due("shorter now", x.set(7, 3, 0), Due.PLACE);
        Due.due("a byte's row now", x.set(7, 2, 128), -128);
        onlyZeros();
    }

    /** An item of a row of a seer. */
    private static int item(AilingKing x, int row, int i) {
        int seen = x.nearly(row, i, 1);
        for (int h = 0; h < 6; h++) {
            if (seen == 1 << h) {
                return h;
            }
        }
        return seen;
    }

    private static void onlyZeros() {
        AilingKing x = Due.seer();
        x.row(0, 1, 40);
        for (int i = 0; i < 40; i++) {
            Due.due("0 at first", item(x, 0, i), 0);
            x.set(0, i, 5);
            Due.due("set", item(x, 0, i), 5);
        }
        x.row(0, 2, 40);
        for (int i = 0; i < 40; i++) {
            Due.due("0 anew", item(x, 0, i), 0);
        }
    }

    private static void setKeepsTheLowestBits() {
        AilingKing x = new AilingKing();
        for (int lane = 0; lane < 3; lane++) {
            x.row(lane, lane, 4);
        }
        int[] tried = {0, 1, -1, 127, 128, 255, 256, -128, -129, 32767, 32768, 65535, 65536, -32768, -32769, MIN, MAX};
        for (int v : tried) {
            Due.due("byte " + v, x.set(0, 3, v), (byte) v);
            Due.due("short " + v, x.set(1, 3, v), (short) v);
            Due.due("int " + v, x.set(2, 3, v), v);
        }
        Due.due("set -1", x.set(-1, 0, 0), Due.BAD);
        Due.due("set 8", x.set(8, 0, 0), Due.BAD);
        Due.due("set missing", x.set(3, -1, 0), Due.NULL);
        Due.due("set i -1", x.set(0, -1, 0), Due.PLACE);
        Due.due("set i 4", x.set(0, 4, 0), Due.PLACE);
        Due.due("set i MIN", x.set(0, MIN, 0), Due.PLACE);
        Due.due("set i MAX", x.set(0, MAX, 0), Due.PLACE);
    }

    private static void copyMoves() {
        AilingKing x = Due.seer();
        x.row(0, 0, 6);
        x.row(1, 0, 6);
        for (int i = 0; i < 6; i++) {
            x.set(0, i, i);
        }
        Due.due("copy", x.copy(0, 1, 1, 2, 3), 3);
        int[] there = {0, 0, 1, 2, 3, 0};
        for (int i = 0; i < 6; i++) {
            Due.due("copied " + i, item(x, 1, i), there[i]);
            Due.due("source " + i, item(x, 0, i), i);
        }
        Due.due("up", x.copy(0, 0, 0, 2, 4), 4);
        int[] up = {0, 1, 0, 1, 2, 3};
        for (int i = 0; i < 6; i++) {
            Due.due("as they were ahead, up " + i, item(x, 0, i), up[i]);
        }
        Due.due("down", x.copy(0, 2, 0, 1, 4), 4);
        int[] down = {0, 0, 1, 2, 3, 3};
        for (int i = 0; i < 6; i++) {
            Due.due("as they were ahead, down " + i, item(x, 0, i), down[i]);
        }
    }

    private static void copyRefusals() {
        AilingKing x = new AilingKing();
        x.row(0, 0, 4);
        x.row(1, 0, 2);
        x.row(2, 1, 4);
        Due.due("a -1", x.copy(-1, 0, 0, 0, 0), Due.BAD);
        Due.due("a 8", x.copy(8, 0, 0, 0, 0), Due.BAD);
        Due.due("b -1", x.copy(5, 0, -1, 0, 0), Due.BAD);
        Due.due("b 8", x.copy(5, 0, 8, 0, 0), Due.BAD);
        Due.due("a missing", x.copy(5, -1, 2, 0, 0), Due.NULL);
        Due.due("b missing", x.copy(0, -1, 5, 0, 0), Due.NULL);
        Due.due("lanes ahead of places", x.copy(0, -1, 2, 0, 0), Due.STORE);
        Due.due("none of two lanes", x.copy(0, 0, 2, 0, 0), Due.STORE);
        Due.due("i -1", x.copy(0, -1, 1, 0, 1), Due.PLACE);
        Due.due("j -1", x.copy(0, 0, 1, -1, 1), Due.PLACE);
        Due.due("n -1", x.copy(0, 1, 1, 1, -1), Due.PLACE);
        Due.due("beyond a", x.copy(0, 3, 1, 0, 2), Due.PLACE);
        Due.due("beyond b", x.copy(0, 0, 1, 1, 2), Due.PLACE);
        Due.due("n MAX", x.copy(0, 1, 1, 1, MAX), Due.PLACE);
        Due.due("n MIN", x.copy(0, 1, 1, 1, MIN), Due.PLACE);
        Due.due("i MAX", x.copy(0, MAX, 1, 0, 1), Due.PLACE);
        Due.due("i, n MAX", x.copy(0, MAX, 1, MAX, MAX), Due.PLACE);
        Due.due("i MIN", x.copy(0, MIN, 1, 0, 1), Due.PLACE);
        Due.due("none at the ends", x.copy(0, 4, 1, 2, 0), 0);
        Due.due("none beyond an end", x.copy(0, 5, 1, 2, 0), Due.PLACE);
        Due.due("to the ends", x.copy(0, 2, 1, 0, 2), 2);
    }

    private static void dropTakes() {
        AilingKing x = new AilingKing();
        x.row(0, 0, 4);
        x.row(1, 0, 0);
        Due.due("drop -1", x.drop(-1), Due.BAD);
        Due.due("drop 8", x.drop(8), Due.BAD);
        Due.due("drop missing", x.drop(2), Due.NULL);
        Due.due("drop", x.drop(0), 4);
        Due.due("drop of none", x.drop(1), 0);
        Due.due("dropped", x.drop(0), Due.NULL);
        Due.due("dropped set", x.set(1, 0, 0), Due.NULL);
        Due.due("no rows", x.count(0), 0);
    }

    private static void statusTells() {
        AilingKing x = new AilingKing();
        x.row(0, 0, -1);
        Due.due("4", x.status(), 4);
        x.row(8, 0, -1);
        Due.due("BAD row", x.status(), 4);
        x.set(0, 0, 0);
        Due.due("1", x.status(), 1);
        x.set(9, 0, 0);
        x.drop(-1);
        x.copy(0, 0, 8, 0, 0);
        x.castle();
        x.feed(-1);
        x.undo();
        x.as(0, 0);
        x.nearly(0, 0, 0);
        Due.due("BAD, STATE", x.status(), 1);
        x.row(0, 0, 2);
        Due.due("row", x.status(), 0);
        x.set(0, 2, 0);
        Due.due("2", x.status(), 2);
        x.set(0, 1, 0);
        Due.due("set", x.status(), 0);
        x.row(1, 1, 2);
        x.copy(0, 0, 1, 0, 2);
        Due.due("5", x.status(), 5);
        x.copy(0, 0, 0, 1, 1);
        Due.due("copy", x.status(), 0);
        x.drop(2);
        Due.due("drop missing", x.status(), 1);
        x.drop(1);
        Due.due("drop", x.status(), 0);
        AilingKing y = Due.castle("k0,1,1;s1,2;", 0);
        y.as(0, 2);
        Due.due("3", y.status(), 3);
        y.as(0, 6);
        y.as(1, 0);
        Due.due("BAD as", y.status(), 3);
        y.as(0, 1);
        Due.due("as", y.status(), 0);
    }

    private static void statusOfNearly() {
        AilingKing x = Due.castle("k0,1,1;s1,2;", 0);
        x.nearly(0, 0, 0);
        Due.due("nearly missing", x.status(), 1);
        x.row(0, 0, 3);
        x.nearly(0, 1, 3);
        Due.due("nearly place", x.status(), 2);
        x.set(0, 1, 1);
        x.as(0, 5);
        Due.due("nearly none of the hints", x.nearly(0, 0, 2), Due.BAD);
        Due.due("BAD nearly", x.status(), 3);
        x.nearly(8, 0, 0);
        x.nearly(0, 0, 9);
        Due.due("BAD nearly, too", x.status(), 3);
        x.nearly(0, 0, 1);
        Due.due("nearly", x.status(), 0);
    }
}
