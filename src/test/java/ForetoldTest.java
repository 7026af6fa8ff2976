/** Promises 17 to 26: what is foretold, and images. */
public final class ForetoldTest {
    private static final int MIN = Integer.MIN_VALUE, MAX = Integer.MAX_VALUE;

    public static void main(String[] args) {
        routes();
        firstRowByNumbers();
        limits();
        aheadOfWhoIsHere();
        thinkables();
        chances();
        taught();
        bestGuests();
        covers();
        spoilts();
        nearlies();
        nearlyRefusals();
        refusals();
        images();
        Due.finish();
    }

    /** A route by its numbers, told as route's answers tell it. */
    private static void route(AilingKing x, int guest, int safe, int... hints) {
        Due.due("route " + guest + " " + safe, x.route(guest, safe, -1), hints.length);
        for (int k = 0; k < hints.length; k++) {
            Due.due("route " + guest + " " + safe + " " + k, x.route(guest, safe, k), hints[k]);
        }
        Due.due("beyond the last", x.route(guest, safe, hints.length), Due.NONE);
        Due.due("far beyond", x.route(guest, safe, MAX), Due.NONE);
    }

    private static void noRoute(AilingKing x, int guest, int safe) {
        for (int k = -1; k < 6; k++) {
            Due.due("no route " + guest + " " + safe + " " + k, x.route(guest, safe, k), Due.NONE);
        }
    }

    private static void routes() {
        AilingKing x = Due.castle("k7,6,5;s0,6;s6,7;s0,1;s1,2;s2,7;n0,0,0;n6,0,0;n7,0,0;n5,0,0;", 4);
        route(x, 0, 0, 0, 1);
        route(x, 0, 1, 2, 3, 4);
        route(x, 1, 0, 1);
        noRoute(x, 1, 1);
        route(x, 2, 0);
        route(x, 2, 1);
        noRoute(x, 3, 0);
        noRoute(x, 3, 1);
        AilingKing y = Due.castle("k7,6,5;m7,3;d7,4;g3,4;g5,6;s6,7;n3,0,0;n4,0,0;n2,0,0;n5,0,0;", 4);
        route(y, 0, 0, 0);
        route(y, 1, 0, 1);
        route(y, 2, 1, 2, 1);
        route(y, 3, 0, 3, 4);
        noRoute(y, 3, 1);
    }

    private static void firstRowByNumbers() {
        AilingKing x = Due.castle("k7,6,5;s3,7;s2,7;s0,3;s0,2;s1,3;s1,2;n0,0,0;n1,0,0;", 2);
        route(x, 0, 0, 2, 0);
        route(x, 1, 0, 4, 0);
        AilingKing y = Due.castle("k7,6,5;s0,2;s0,3;s3,7;s2,7;n0,0,0;", 1);
        route(y, 0, 0, 0, 3);
    }

    private static void limits() {
        String way = "s0,1;s1,2;s2,3;s3,4;s4,7;n0,0,0;n1,0,0;n2,0,0;";
        route(Due.castle("k7,6,5;" + way, 3), 0, 0, 0, 1, 2, 3, 4);
        AilingKing x = Due.castle("k7,6,4;" + way, 3);
        noRoute(x, 0, 0);
        route(x, 1, 0, 1, 2, 3, 4);
        AilingKing y = Due.castle("k7,6,3;" + way, 3);
        noRoute(y, 1, 0);
        route(y, 2, 1, 2, 3, 4);
        Due.due("thinkable within 3", y.thinkable(0), 15);
        Due.due("cover", y.cover(0), Due.NONE);
        AilingKing z = Due.castle("k7,6,1;s0,7;s1,0;n1,0,0;n0,0,0;", 2);
        noRoute(z, 0, 0);
        Due.due("thinkable within 1", z.thinkable(0), 3);
    }

    private static void aheadOfWhoIsHere() {
        AilingKing x = Due.castle("k7,6,3;s0,1;s1,7;s2,0;w5,2;n0,0,0;n2,0,0;n5,0,0;", 3);
        x.invite(0);
        route(x, 0, 0, 0, 1);
        x.show(2);
        route(x, 0, 0, 0, 1);
        x.show(3);
        noRoute(x, 0, 0);
        Due.due("one hint left", x.thinkable(0), 3);
        Due.due("two are not left", x.chance(0, 2, 0), Due.NONE);
        Due.due("one is left", x.chance(0, 1, 1), 1);
        route(x, 1, 0, 2, 0, 1);
        x.show(0);
        Due.due("no hint left", x.thinkable(0), 2);
        Due.due("none are left", x.chance(0, 0, 0), 0);
        Due.due("none are left", x.chance(0, 1, 0), Due.NONE);
        noRoute(x, 0, 0);
        x.undo();
        x.undo();
        x.undo();
        x.show(1);
        noRoute(x, 0, 0);
        Due.due("that hint was shown", x.thinkable(0), 3);
        Due.due("three hints are not left", x.chance(0, 3, 0), Due.NONE);
        Due.due("taught", x.taught(0), 0);
        x.speak();
        Due.due("has been", x.route(0, 0, -1), Due.STATE);
        Due.due("has been", x.thinkable(0), Due.STATE);
        Due.due("has been", x.chance(0, 0, 0), Due.STATE);
        Due.due("taught all the same", x.taught(0), 0);
    }

    private static void thinkables() {
        AilingKing x = Due.castle("k7,6,2;g3,5;d5,1;m2,5;w4,0;n3,0,0;n2,0,0;n1,0,0;n4,0,0;n6,0,0;", 5);
        Due.due("3", x.thinkable(0), 1 << 3 | 1 << 5 | 1 << 1 | 1 << 2);
        Due.due("2", x.thinkable(1), 1 << 2 | 1 << 5 | 1 << 1);
        Due.due("1", x.thinkable(2), 1 << 1 | 1 << 5 | 1 << 2);
        Due.due("4", x.thinkable(3), 1 << 4 | 1);
        Due.due("6", x.thinkable(4), 1 << 6);
        for (int g = 0; g < 2; g++) {
            x.invite(g);
            x.show(3);
            x.speak();
        }
        Due.due("worn out", x.thinkable(3), 1 << 4);
    }

    private static void chance(AilingKing x, int guest, int n, int above, int below) {
        Due.due("chance " + guest + " " + n + " above", x.chance(guest, n, 0), above);
        Due.due("chance " + guest + " " + n + " below", x.chance(guest, n, 1), below);
    }

    private static void chances() {
        AilingKing x = Due.castle("k1,2,3;s0,1;s1,2;d1,0;n0,0,0;n1,0,0;", 2);
        chance(x, 0, 0, 0, 1);
        chance(x, 1, 0, 1, 1);
        chance(x, 0, 1, 2, 3);
        // Of 01 02 10 12 20 21: 10, 12 lead to 1; 20 stays there; 02 leads back, 01 and 21 on to 2.
        chance(x, 0, 2, 1, 2);
        // 012: 2; 021: 0; 102: 0; 120: 1; 201: 2; 210: 2.
        chance(x, 0, 3, 1, 6);
        chance(x, 0, 4, Due.NONE, Due.NONE);
        chance(x, 1, 1, 1, 3);
        AilingKing y = Due.castle("k1,2,5;s0,1;n0,0,0;n1,0,0;", 2);
        chance(y, 0, 1, 1, 1);
        chance(y, 0, 2, Due.NONE, Due.NONE);
        AilingKing z = Due.castle("k1,2,3;s0,1;s0,1;s0,1;s0,1;s3,4;s3,4;s3,4;s3,4;n0,0,0;", 1);
        chance(z, 0, 1, 1, 2);
        chance(z, 0, 2, 11, 14);
        chance(z, 0, 3, 13, 14);
        chance(z, 0, 4, Due.NONE, Due.NONE);
        AilingKing four = Due.castle("k1,2,4;s0,1;s0,1;s0,1;s0,1;s3,4;s3,4;s3,4;s3,4;n0,0,0;", 1);
        chance(four, 0, 4, 69, 70);
        Due.due("5", four.chance(0, 5, 0), Due.BAD);
        Due.due("-1", four.chance(0, -1, 0), Due.BAD);
        Due.due("what 2", four.chance(0, 0, 2), Due.BAD);
        Due.due("what -1", four.chance(0, 0, -1), Due.BAD);
        four.invite(0);
        four.speak();
        Due.due("BAD ahead of STATE", four.chance(0, 5, 0), Due.BAD);
    }

    private static void taught() {
        AilingKing x = Due.castle("k1,2,3;n0,5,5;n0,5,4;n0,5,6;n0,20,0;", 4);
        int[] by = {0, 1, 0, 20};
        for (int g = 0; g < 4; g++) {
            Due.due("taught " + g, x.taught(g), by[g]);
        }
        x.tale(3, 7);
        Due.due("taught then", x.taught(3), 13);
        Due.due("none", x.taught(4), Due.BAD);
        Due.due("none", x.taught(-1), Due.BAD);
    }

    private static void best(AilingKing x, int who, int hints) {
        Due.due("best guest", x.bestGuest(0), who);
        Due.due("best guest's hints", x.bestGuest(1), hints);
        Due.due("no such", x.bestGuest(2), Due.BAD);
        Due.due("no such", x.bestGuest(-1), Due.BAD);
    }

    private static void bestGuests() {
        AilingKing x = Due.castle("k7,6,3;s0,1;s1,7;n0,3,3;n7,3,2;n1,3,3;n1,3,4;n5,0,0;", 5);
        best(x, 2, 1);
        x.tale(1, 1);
        best(x, 1, 0);
        x.undo();
        x.invite(2);
        best(x, 3, 1);
        x.undo();
        x.tale(3, -20);
        x.invite(2);
        best(x, 0, 2);
        x.speak();
        best(x, 0, 2);
        x.invite(0);
        best(x, Due.NONE, Due.NONE);
        AilingKing unsafe = Due.castle("k7,6,3;s0,6;s6,7;n0,3,3;", 1);
        best(unsafe, 0, 2);
    }

    private static void cover(AilingKing x, int many, int hints) {
        Due.due("cover", x.cover(0), many);
        Due.due("cover by", x.cover(1), hints);
        Due.due("no such", x.cover(2), Due.BAD);
        Due.due("no such", x.cover(-1), Due.BAD);
    }

    private static void covers() {
        AilingKing x = Due.castle("k7,6,2;s0,7;s1,7;s1,0;g1,7;s2,7;n0,9,0;n1,9,0;", 2);
        cover(x, 1, 1 << 3);
        AilingKing y = Due.castle("k7,6,2;s0,7;s1,7;s1,0;s2,7;n0,9,0;n1,9,0;n2,9,0;", 3);
        cover(y, 3, 1 | 2 | 8);
        y.invite(2);
        cover(y, 2, 1 | 2);
        y.speak();
        cover(y, 2, 1 | 2);
        y.invite(1);
        cover(y, 1, 1);
        y.speak();
        y.invite(0);
        cover(y, 0, 0);
        AilingKing one = Due.castle("k7,6,1;s1,0;s0,7;s1,7;n0,0,0;n1,0,0;", 2);
        cover(one, 2, 2 | 4);
        cover(Due.castle("k7,6,1;s1,0;s0,7;n0,0,0;n5,0,0;", 2), Due.NONE, Due.NONE);
        cover(Due.castle("k7,6,1;n7,0,0;", 1), 0, 0);
        cover(Due.castle("k7,6,1;", 0), 0, 0);
        cover(Due.castle("k7,6,2;s0,6;s6,7;n0,9,0;", 1), 2, 3);
        AilingKing worn = Due.castle("k7,6,1;w0,7;s0,7;n0,9,0;n0,9,0;n0,9,0;", 3);
        for (int g = 0; g < 2; g++) {
            cover(worn, 1, 1);
            worn.invite(g);
            worn.show(0);
            worn.speak();
        }
        cover(worn, 1, 2);
    }

    private static void spoilt(AilingKing x, int hint, int have) {
        Due.due("spoilt", x.spoilt(0), hint);
        Due.due("spoilt have", x.spoilt(1), have);
        Due.due("no such", x.spoilt(2), Due.BAD);
        Due.due("no such", x.spoilt(-1), Due.BAD);
    }

    private static void spoilts() {
        AilingKing x = Due.castle("k7,6,2;s0,7;s1,2;s2,7;s3,4;n0,9,0;n1,0,0;n2,0,0;n7,0,0;", 4);
        spoilt(x, 2, 2);
        x.invite(1);
        spoilt(x, 0, 2);
        x.speak();
        spoilt(x, 0, 2);
        x.invite(0);
        spoilt(x, 2, 1);
        spoilt(Due.castle("k7,6,2;n7,0,0;", 1), Due.NONE, Due.NONE);
        spoilt(Due.castle("k7,6,2;s0,1;", 0), 0, 0);
        spoilt(Due.castle("k7,6,2;s3,7;s0,6;s6,7;n0,0,0;n6,0,0;n3,0,0;", 3), 2, 1);
        spoilt(Due.castle("k7,6,2;s0,1;s0,7;n0,0,0;n7,0,0;", 2), 1, 1);
        spoilt(Due.castle("k7,6,1;s1,2;s2,7;s1,7;n1,0,0;", 1), 2, 0);
    }

    private static void nearlies() {
        AilingKing x = Due.castle("k7,6,1;w0,7;s7,0;s1,7;n0,5,4;n0,5,5;n7,5,4;n1,5,4;n0,5,4;n0,5,4;", 6);
        x.row(0, 0, 10);
        int[] hints = {0, 1, 0, 1, 0, 2, 2, 1, 0, 0};
        for (int i = 0; i < 10; i++) {
            x.set(0, i, hints[i]);
        }
        int[] due = {4, 53, 0, 53, 0, 0, 8, 8, 0};
        for (int n = 0; n < due.length; n++) {
            Due.due("nearly " + n, x.nearly(0, 0, n), due[n]);
        }
        Due.due("from 5 on", x.nearly(0, 5, 1), 12);
        Due.due("from 6 on", x.nearly(0, 6, 4), 61);
        Due.due("none of the rest", x.nearly(0, 10, 0), 4);
        x.invite(4);
        x.show(0);
        Due.due("who is here does not count; shown once", x.nearly(0, 0, 1), 1 | 4 | 32);
        Due.due("twice now", x.nearly(0, 0, 3), 0);
        x.speak();
        Due.due("has been", x.nearly(0, 0, 1), 1 | 4 | 32);
        x.tale(0, 1);
        Due.due("dares", x.nearly(0, 0, 1), 4 | 32);
        x.invite(5);
        x.show(0);
        Due.due("worn out", x.nearly(0, 0, 1), 4);
        Due.due("changes nothing", x.hint(0, 2), 2);
    }

    private static void nearlyRefusals() {
        AilingKing x = Due.castle("k7,6,1;s0,7;s7,0;n0,5,4;", 1);
        x.row(0, 0, 10);
        x.set(0, 2, 2);
        x.set(0, 3, -1);
        int[] badRow = {-1, 8, MIN, MAX};
        for (int row : badRow) {
            Due.due("row " + row, x.nearly(row, 0, 1), Due.BAD);
        }
        int[] badN = {-1, 9, MIN, MAX};
        for (int n : badN) {
            Due.due("n " + n, x.nearly(0, 0, n), Due.BAD);
            Due.due("n ahead of NULL " + n, x.nearly(1, 0, n), Due.BAD);
        }
        int[] badI = {-1, 10, MIN, MAX};
        for (int i : badI) {
            Due.due("i " + i, x.nearly(0, i, 1), Due.PLACE);
            Due.due("NULL ahead of PLACE " + i, x.nearly(1, i, 1), Due.NULL);
        }
        Due.due("beyond the end", x.nearly(0, 3, 8), Due.PLACE);
        Due.due("none beyond the end", x.nearly(0, 11, 0), Due.PLACE);
        Due.due("an item that is none", x.nearly(0, 0, 3), Due.BAD);
        Due.due("an item that is none", x.nearly(0, 3, 1), Due.BAD);
        Due.due("items that are some", x.nearly(0, 4, 1), 1);
        Due.due("as many as may be", x.nearly(0, 0, 2), 1);
        Due.due("not those behind", x.nearly(0, 4, 6), 1);
    }

    private static void refusals() {
        AilingKing x = Due.castle("k7,6,1;s0,7;n0,5,4;n0,5,4;", 2);
        int[] no = {-1, 2, MIN, MAX};
        for (int none : no) {
            Due.due("route", x.route(none, 0, -1), Due.BAD);
            Due.due("thinkable", x.thinkable(none), Due.BAD);
            Due.due("chance", x.chance(none, 0, 0), Due.BAD);
            Due.due("safe", x.route(0, none, -1), Due.BAD);
        }
        Due.due("k", x.route(0, 0, -2), Due.BAD);
        Due.due("k", x.route(0, 0, MIN), Due.BAD);
        x.invite(0);
        x.speak();
        Due.due("BAD ahead of STATE", x.route(0, 0, -2), Due.BAD);
        Due.due("BAD ahead of STATE", x.route(0, 2, 0), Due.BAD);
        Due.due("STATE", x.route(0, 1, 0), Due.STATE);
        Due.due("nothing changed", x.count(7), 2);
    }

    private static void images() {
        AilingKing x = Due.castle("k7,6,2;s0,7;w1,6;n0,0,0;n1,0,0;n2,0,0;", 3);
        int[] no = {-1, 2, MIN, MAX};
        for (int none : no) {
            Due.due("no such image", x.image(none), Due.BAD);
            Due.due("no such image", x.restore(none), Due.BAD);
        }
        Due.due("none was kept", x.restore(0), Due.STATE);
        x.invite(1);
        x.show(1);
        x.speak();
        x.tale(2, 3);
        x.invite(0);
        x.show(1);
        Due.due("image", x.image(1), 1);
        Due.due("acts stay", x.count(7), 6);
        Due.due("the other was not kept", x.restore(0), Due.STATE);
        x.show(0);
        x.speak();
        x.tale(2, -1);
        Due.feed(x, "k0,1,1;");
        Due.due("another castle", x.castle(), 0);
        Due.feed(x, "n");
        for (int turn = 0; turn < 2; turn++) {
            Due.due("restore", x.restore(1), 1);
            int[] counts = {0, 2, 3, 0, 0, 1, 1, 0, 1};
            for (int what = 0; what < counts.length; what++) {
                Due.due("count then " + what, x.count(what), counts[what]);
            }
            Due.due("undo", x.undo(), Due.STATE);
            Due.due("asked", x.guest(1, 4), 6);
            Due.due("been", x.guest(1, 3), 2);
            Due.due("bold", x.guest(2, 2), 3);
            Due.due("mind", x.guest(0, 0), 0);
            Due.due("fear", x.guest(0, 1), 0);
            Due.due("from", x.hint(1, 0), 1);
            Due.due("to", x.hint(1, 1), 6);
            Due.due("shown", x.hint(1, 2), 2);
            Due.due("kind", x.kind(1), 3);
            Due.due("shown tonight", x.show(1), Due.STATE);
            Due.due("show", x.show(0), 7);
            Due.due("limit", x.show(0), Due.STATE);
            Due.due("question", x.speak(), 7);
            Due.due("acts since", x.undo(), 1);
        }
        Due.due("image of now", x.image(0), 1);
        x.undo();
        Due.due("image 1 stays apart", x.restore(0), 1);
        Due.due("mind of image 0", x.guest(0, 0), 7);
    }
}
