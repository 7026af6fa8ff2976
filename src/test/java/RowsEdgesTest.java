/** Promises 1 to 5 and 32, and the ROWS of Terms: each sentence that names a boundary, inside, at, and beyond it. */
public final class RowsEdgesTest {
    private static final int MIN = Due.MIN, MAX = Due.MAX;

    public static void main(String[] args) {
        missingAtFirst();
        rows0To7();
        lanes();
        sizes();
        zeroAtFirst();
        inPlaceOfWhatIsThere();
        sizeIsFound();
        lowestBits();
        lowestBitsAreKept();
        setRefusals();
        placesOfARow();
        copyAsTheyWereAhead();
        copyOfAllAndNone();
        copyBeyondAnEnd();
        copyRefusals();
        dropped();
        statusOfEachCall();
        statusStays();
        Due.finish();
    }

    private static void missingAtFirst() {
        Due.sentence("ROWS 0 .. 7 are missing (at first)");
        for (int row = 0; row < 8; row++) {
            AilingKing x = Due.seer();
            Due.due("count", x.count(0), 0);
            Due.due("set " + row, x.set(row, 0, 0), Due.NULL);
            Due.due("drop " + row, x.drop(row), Due.NULL);
            Due.due("nearly " + row, x.nearly(row, 0, 0), Due.NULL);
            Due.due("copy " + row, x.copy(row, 0, row, 0, 0), Due.NULL);
        }
    }

    private static void rows0To7() {
        Due.sentence("ROWS 0 .. 7");
        AilingKing x = Due.seer();
        for (int row = 0; row < 8; row++) {
            Due.due("row " + row, x.row(row, 0, 1), 1);
            Due.due("count", x.count(0), row + 1);
        }
        int[] none = {-1, 8, MIN, MAX};
        for (int row : none) {
            Due.due("row " + row, x.row(row, 0, 1), Due.BAD);
            Due.due("set " + row, x.set(row, 0, 1), Due.BAD);
            Due.due("copy from " + row, x.copy(row, 0, 0, 0, 1), Due.BAD);
            Due.due("copy to " + row, x.copy(0, 0, row, 0, 1), Due.BAD);
            Due.due("nearly " + row, x.nearly(row, 0, 1), Due.BAD);
            Due.due("drop " + row, x.drop(row), Due.BAD);
        }
        Due.due("count", x.count(0), 8);
        int[] ends = {0, 7};
        for (int row : ends) {
            Due.due("set " + row, x.set(row, 0, 3), 3);
            Due.due("nearly " + row, x.nearly(row, 0, 1), 1 << 3);
            Due.due("copy " + row, x.copy(row, 0, 7 - row, 0, 1), 1);
        }
        for (int row = 0; row < 8; row++) {
            Due.due("drop " + row, x.drop(row), 1);
            Due.due("count", x.count(0), 7 - row);
        }
    }

    private static void lanes() {
        Due.sentence("a LANE (0 bytes, 1 shorts, 2 ints)");
        AilingKing x = new AilingKing();
        int[] none = {-1, 3, MIN, MAX};
        for (int lane : none) {
            Due.due("lane " + lane, x.row(0, lane, 1), Due.BAD);
        }
        Due.due("no row", x.count(0), 0);
        for (int lane = 0; lane < 3; lane++) {
            Due.due("lane " + lane, x.row(lane, lane, 1), 1);
        }
        Due.due("a byte", x.set(0, 0, 70000), 112);
        Due.due("a short", x.set(1, 0, 70000), 4464);
        Due.due("an int", x.set(2, 0, 70000), 70000);
    }

    private static void sizes() {
        Due.sentence("0 to 40 ITEMS");
        AilingKing x = new AilingKing();
        int[] sizes = {0, 1, 39, 40};
        for (int n : sizes) {
            for (int lane = 0; lane < 3; lane++) {
                Due.due("row of " + n, x.row(0, lane, n), n);
                Due.due("no place -1", x.set(0, -1, 1), Due.PLACE);
                Due.due("the first place of " + n, x.set(0, 0, 1), n > 0 ? 1 : Due.PLACE);
                Due.due("the last place of " + n, x.set(0, n - 1, 1), n > 0 ? 1 : Due.PLACE);
                Due.due("one place beyond " + n, x.set(0, n, 1), Due.PLACE);
                Due.due("had " + n, x.drop(0), n);
            }
        }
        int[] many = {41, 42, 256, MAX};
        for (int n : many) {
            Due.due("row of " + n, x.row(0, 0, n), Due.BAD);
        }
        int[] few = {-1, -40, MIN};
        for (int n : few) {
            Due.due("row of " + n, x.row(0, 0, n), Due.SIZE);
        }
        Due.due("no row", x.count(0), 0);
    }

    private static void zeroAtFirst() {
        Due.sentence("ITEMS, 0 at first");
        AilingKing x = Due.seer();
        for (int lane = 0; lane < 3; lane++) {
            x.row(7, lane, 40);
            for (int i = 0; i < 40; i += 8) {
                Due.due("eight items from " + i, x.nearly(7, i, 8), 1);
            }
            for (int i = 0; i < 40; i++) {
                x.set(7, i, 5);
            }
            Due.due("the last eight", x.nearly(7, 32, 8), 32);
        }
    }

    private static void inPlaceOfWhatIsThere() {
        Due.sentence("A ROW of a LANE with n ITEMS, in place of what is there");
        AilingKing x = Due.seer();
        x.row(3, 2, 6);
        x.row(4, 2, 6);
        x.set(3, 0, 4);
        x.set(4, 0, 5);
        Due.due("anew", x.row(3, 0, 2), 2);
        Due.due("count", x.count(0), 2);
        Due.items(x, 3, 0, 0);
        Due.due("two places now", x.set(3, 2, 1), Due.PLACE);
        Due.due("a byte now", x.set(3, 1, 200), -56);
        Due.due("another LANE now", x.copy(3, 0, 4, 0, 1), Due.STORE);
        Due.items(x, 4, 5, 0, 0);
        Due.due("none now", x.row(3, 1, 0), 0);
        Due.due("not missing", x.set(3, 0, 0), Due.PLACE);
        Due.due("more again", x.row(3, 2, 40), 40);
        Due.due("the last", x.set(3, 39, 200), 200);
        Due.due("count", x.count(0), 2);
    }

    private static void sizeIsFound() {
        Due.sentence("BAD: ROW, LANE, n above 40; SIZE");
        AilingKing x = Due.seer();
        Due.due("ROW ahead of SIZE", x.row(8, 0, -1), Due.BAD);
        Due.due("LANE ahead of SIZE", x.row(0, 3, -1), Due.BAD);
        Due.due("status", x.status(), 0);
        Due.due("SIZE", x.row(0, 0, -1), Due.SIZE);
        Due.due("status", x.status(), 4);
        Due.due("missing yet", x.drop(0), Due.NULL);
        x.row(0, 0, 3);
        x.set(0, 2, 4);
        Due.due("SIZE", x.row(0, 2, -1), Due.SIZE);
        Due.due("n above 40", x.row(0, 2, 41), Due.BAD);
        Due.items(x, 0, 0, 0, 4);
        Due.due("bytes yet", x.set(0, 0, 128), -128);
        Due.due("three yet", x.drop(0), 3);
    }

    private static void lowestBits() {
        Due.sentence("v, its lowest bits, as many as the LANE has (read with their sign)");
        AilingKing x = new AilingKing();
        for (int lane = 0; lane < 3; lane++) {
            x.row(lane, lane, 1);
        }
        int[][] due = {{0, 0, 0}, {-1, -1, -1}, {127, 127, 127}, {128, -128, 128}, {129, -127, 129}, {255, -1, 255},
            {256, 0, 256}, {257, 1, 257}, {-128, -128, -128}, {-129, 127, -129}, {-256, 0, -256}, {-257, -1, -257},
            {32767, -1, 32767}, {32768, 0, -32768}, {32769, 1, -32767}, {65535, -1, -1}, {65536, 0, 0}, {65537, 1, 1},
            {-32768, 0, -32768}, {-32769, -1, 32767}, {-65536, 0, 0}, {-65537, -1, -1}, {MAX, -1, -1}, {MIN, 0, 0}};
        for (int[] v : due) {
            Due.due("byte " + v[0], x.set(0, 0, v[0]), v[1]);
            Due.due("short " + v[0], x.set(1, 0, v[0]), v[2]);
            Due.due("int " + v[0], x.set(2, 0, v[0]), v[0]);
        }
    }

    private static void lowestBitsAreKept() {
        Due.sentence("ITEM i becomes v, its lowest bits");
        AilingKing x = Due.seer();
        for (int lane = 0; lane < 3; lane++) {
            x.row(lane, lane, 1);
            x.set(lane, 0, 65536 + 2);
            Due.due("65538 in lane " + lane, x.nearly(lane, 0, 1), lane < 2 ? 4 : Due.BAD);
            x.set(lane, 0, 256 + 3);
            Due.due("259 in lane " + lane, x.nearly(lane, 0, 1), lane < 1 ? 8 : Due.BAD);
            x.set(lane, 0, -256 + 5);
            Due.due("-251 in lane " + lane, x.nearly(lane, 0, 1), lane < 1 ? 32 : Due.BAD);
            x.set(lane, 0, MIN + 1);
            Due.due("MIN + 1 in lane " + lane, x.nearly(lane, 0, 1), lane < 2 ? 2 : Due.BAD);
        }
    }

    private static void setRefusals() {
        Due.sentence("set: BAD: ROW; NULL; PLACE");
        AilingKing x = Due.seer();
        x.row(0, 0, 2);
        Due.due("ROW ahead of PLACE", x.set(8, 9, 1), Due.BAD);
        Due.due("NULL ahead of PLACE", x.set(1, -1, 1), Due.NULL);
        int[] none = {-1, 2, 3, 40, MIN, MAX};
        for (int i : none) {
            Due.due("place " + i, x.set(0, i, 1), Due.PLACE);
        }
        Due.items(x, 0, 0, 0);
        x.set(0, 1, 3);
        Due.items(x, 0, 0, 3);
    }

    private static void placesOfARow() {
        Due.sentence("PLACE (no such place of a ROW)");
        AilingKing x = Due.seer();
        for (int row = 0; row < 8; row++) {
            x.row(row, 2, 40);
        }
        for (int row = 0; row < 8; row++) {
            Due.due("first", x.set(row, 0, row % 6), row % 6);
            Due.due("last", x.set(row, 39, (row + 1) % 6), (row + 1) % 6);
        }
        for (int row = 0; row < 8; row++) {
            Due.due("first of " + row, x.nearly(row, 0, 1), 1 << row % 6);
            Due.due("second of " + row, x.nearly(row, 1, 1), 1);
            Due.due("last but one of " + row, x.nearly(row, 38, 1), 1);
            Due.due("last of " + row, x.nearly(row, 39, 1), 1 << (row + 1) % 6);
            Due.due("none behind the last of " + row, x.nearly(row, 40, 1), Due.PLACE);
        }
    }

    /** Row 0 with items 1 2 3 4 5, row 1 with 0 0 0 0 0. */
    private static AilingKing fives() {
        AilingKing x = Due.seer();
        x.row(0, 0, 5);
        x.row(1, 0, 5);
        for (int i = 0; i < 5; i++) {
            x.set(0, i, i + 1);
        }
        return x;
    }

    private static void copyAsTheyWereAhead() {
        Due.sentence("n ITEMS of a from i on come to b from j on, as they were ahead");
        AilingKing x = fives();
        Due.due("up", x.copy(0, 0, 0, 1, 4), 4);
        Due.items(x, 0, 1, 1, 2, 3, 4);
        x = fives();
        Due.due("down", x.copy(0, 1, 0, 0, 4), 4);
        Due.items(x, 0, 2, 3, 4, 5, 5);
        x = fives();
        Due.due("in place", x.copy(0, 1, 0, 1, 3), 3);
        Due.items(x, 0, 1, 2, 3, 4, 5);
        Due.due("to another", x.copy(0, 1, 1, 2, 2), 2);
        Due.items(x, 0, 1, 2, 3, 4, 5);
        Due.items(x, 1, 0, 0, 2, 3, 0);
    }

    private static void copyOfAllAndNone() {
        Due.sentence("n ITEMS come: n");
        AilingKing x = fives();
        Due.due("none", x.copy(0, 0, 1, 0, 0), 0);
        Due.items(x, 1, 0, 0, 0, 0, 0);
        Due.due("one", x.copy(0, 4, 1, 0, 1), 1);
        Due.items(x, 1, 5, 0, 0, 0, 0);
        Due.due("all", x.copy(0, 0, 1, 0, 5), 5);
        Due.items(x, 1, 1, 2, 3, 4, 5);
        x.row(2, 1, 40);
        x.row(7, 1, 40);
        x.set(2, 0, 4);
        x.set(2, 39, 3);
        Due.due("all 40", x.copy(2, 0, 7, 0, 40), 40);
        Due.due("the first", x.nearly(7, 0, 1), 16);
        Due.due("the last", x.nearly(7, 39, 1), 8);
        Due.due("all but one, up", x.copy(7, 0, 7, 1, 39), 39);
        Due.items(x, 7, 4, 4, 0);
        Due.due("the last", x.nearly(7, 39, 1), 1);
        x.row(5, 1, 0);
        Due.due("none of none", x.copy(5, 0, 5, 0, 0), 0);
        Due.due("one of none", x.copy(5, 0, 5, 0, 1), Due.PLACE);
    }

    private static void copyBeyondAnEnd() {
        Due.sentence("PLACE (i, j, n below 0, or beyond an end)");
        AilingKing x = fives();
        x.row(1, 0, 3);
        int[] below = {-1, -2, MIN};
        for (int least : below) {
            Due.due("i " + least, x.copy(0, least, 1, 0, 1), Due.PLACE);
            Due.due("j " + least, x.copy(0, 0, 1, least, 1), Due.PLACE);
            Due.due("n " + least, x.copy(0, 2, 1, 2, least), Due.PLACE);
        }
        Due.due("to the end of a", x.copy(0, 3, 1, 0, 2), 2);
        Due.due("beyond the end of a", x.copy(0, 3, 1, 0, 3), Due.PLACE);
        Due.due("beyond the end of a", x.copy(0, 4, 1, 0, 2), Due.PLACE);
        Due.due("to the end of b", x.copy(0, 0, 1, 1, 2), 2);
        Due.due("beyond the end of b", x.copy(0, 0, 1, 1, 3), Due.PLACE);
        Due.due("beyond the end of b", x.copy(0, 0, 1, 2, 2), Due.PLACE);
        Due.due("all of b", x.copy(0, 0, 1, 0, 3), 3);
        Due.due("more than b has", x.copy(0, 0, 1, 0, 4), Due.PLACE);
        Due.due("none at both ends", x.copy(0, 5, 1, 3, 0), 0);
        Due.due("none beyond the end of a", x.copy(0, 6, 1, 3, 0), Due.PLACE);
        Due.due("none beyond the end of b", x.copy(0, 5, 1, 4, 0), Due.PLACE);
        Due.due("i MAX", x.copy(0, MAX, 1, 0, 1), Due.PLACE);
        Due.due("j MAX", x.copy(0, 0, 1, MAX, 1), Due.PLACE);
        Due.due("n MAX", x.copy(0, 0, 1, 0, MAX), Due.PLACE);
        Due.due("all MAX", x.copy(0, MAX, 1, MAX, MAX), Due.PLACE);
        Due.due("a sum that wraps", x.copy(0, 1, 1, 1, MAX), Due.PLACE);
        Due.items(x, 0, 1, 2, 3, 4, 5);
        Due.items(x, 1, 1, 2, 3);
    }

    private static void copyRefusals() {
        Due.sentence("copy: BAD: ROWS; NULL; STORE; PLACE");
        AilingKing x = fives();
        x.row(2, 1, 5);
        x.row(3, 2, 5);
        int[] none = {-1, 8, MIN, MAX};
        for (int row : none) {
            Due.due("BAD ahead of NULL, from " + row, x.copy(row, 0, 6, 0, 1), Due.BAD);
            Due.due("BAD ahead of NULL, to " + row, x.copy(6, 0, row, 0, 1), Due.BAD);
        }
        Due.due("NULL ahead of PLACE, from", x.copy(6, -1, 0, 0, 1), Due.NULL);
        Due.due("NULL ahead of PLACE, to", x.copy(0, 9, 6, 0, -1), Due.NULL);
        Due.due("NULL of both", x.copy(6, 0, 5, 0, 0), Due.NULL);
        int[][] lanes = {{0, 2}, {2, 0}, {0, 3}, {3, 0}, {2, 3}, {3, 2}};
        for (int[] two : lanes) {
            Due.due("STORE", x.copy(two[0], 0, two[1], 0, 1), Due.STORE);
            Due.due("STORE of none", x.copy(two[0], 0, two[1], 0, 0), Due.STORE);
            Due.due("STORE ahead of PLACE", x.copy(two[0], -1, two[1], 0, 1), Due.STORE);
            Due.due("STORE ahead of PLACE", x.copy(two[0], 0, two[1], 0, 6), Due.STORE);
            Due.due("status", x.status(), 5);
        }
        Due.items(x, 2, 0, 0, 0, 0, 0);
        Due.items(x, 0, 1, 2, 3, 4, 5);
    }

    private static void dropped() {
        Due.sentence("A ROW is missing from now on: how many ITEMS it had");
        AilingKing x = Due.seer();
        int[] sizes = {0, 1, 40};
        for (int n : sizes) {
            x.row(2, 2, n);
            Due.due("had", x.drop(2), n);
            Due.due("missing", x.drop(2), Due.NULL);
            Due.due("set", x.set(2, 0, 1), Due.NULL);
            Due.due("copy from", x.copy(2, 0, 3, 0, 0), Due.NULL);
            Due.due("nearly", x.nearly(2, 0, 0), Due.NULL);
            Due.due("count", x.count(0), 0);
        }
        x.row(2, 0, 2);
        x.set(2, 1, 5);
        x.drop(2);
        x.row(2, 0, 2);
        Due.items(x, 2, 0, 0);
    }

    private static void statusOfEachCall() {
        Due.sentence("Of the latest call with a ROW, or as(): the number of its FINDING; 0: it had none");
        AilingKing x = Due.seer();
        Due.due("there was none", x.status(), 0);
        x.row(1, 1, 2);
        int[] answers = {x.row(0, 0, -1), x.status(), x.row(0, 0, 2), x.status(), x.set(2, 0, 0), x.status(),
            x.set(0, 2, 0), x.status(), x.set(0, 1, 0), x.status(), x.copy(0, 0, 2, 0, 1), x.status(),
            x.copy(0, 0, 1, 0, 1), x.status(), x.copy(0, 0, 0, 0, 3), x.status(), x.copy(0, 0, 0, 1, 1), x.status(),
            x.drop(2), x.status(), x.drop(1), x.status(), x.nearly(2, 0, 0), x.status(), x.nearly(0, 0, 3),
            x.status(), x.nearly(0, 0, 2), x.status(), x.as(0, 4), x.status(), x.as(0, 0), x.status()};
        int[] due = {Due.SIZE, 4, 2, 0, Due.NULL, 1, Due.PLACE, 2, 0, 0, Due.NULL, 1, Due.STORE, 5, Due.PLACE, 2, 1, 0,
            Due.NULL, 1, 2, 0, Due.NULL, 1, Due.PLACE, 2, 1, 0, Due.KIND, 3, 0, 0};
        for (int i = 0; i < due.length; i++) {
            Due.due("answer " + i, answers[i], due[i]);
        }
    }

    private static void statusStays() {
        Due.sentence("status: that was not BAD, STATE, FULL");
        for (int finding = 1; finding <= 5; finding++) {
            AilingKing x = Due.castle("k0,1,1;s1,2;n3,0,0;", 1);
            x.row(0, 0, 2);
            x.row(1, 1, 2);
            x.set(0, 0, 9);
            int found = finding == 1 ? x.drop(2) : finding == 2 ? x.set(0, 2, 0) : finding == 3 ? x.as(0, 5)
                : finding == 4 ? x.row(2, 0, -1) : x.copy(0, 0, 1, 0, 1);
            Due.due("found", found, -1000010 - finding);
            int[] bad = {x.row(8, 0, 1), x.row(0, 3, 1), x.row(0, 0, 41), x.set(8, 0, 0), x.copy(8, 0, 0, 0, 0),
                x.copy(0, 0, 8, 0, 0), x.drop(-1), x.nearly(8, 0, 0), x.nearly(0, 0, 9), x.nearly(0, 0, 1),
                x.as(1, 0), x.as(0, 6)};
            for (int answer : bad) {
                Due.due("refused", answer, Due.BAD);
            }
            Due.due("status stays", x.status(), finding);
            x.invite(0);
            x.ask(0, 0);
            x.castle();
            x.count(0);
            x.restore(0);
            x.image(0);
            x.restore(0);
            Due.feed(x, "k7,6,5;");
            x.castle();
            x.cover(0);
            Due.due("no call with a ROW", x.status(), finding);
        }
        AilingKing none = new AilingKing();
        none.drop(0);
        Due.due("STATE", none.nearly(0, 0, 0), Due.STATE);
        Due.due("status stays", none.status(), 1);
    }
}
