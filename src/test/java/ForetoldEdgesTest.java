/** Promises 17 to 24, and section 3 of Terms: each sentence that names a boundary, inside, at, and beyond it. */
public final class ForetoldEdgesTest {
    private static final int MIN = Due.MIN, MAX = Due.MAX;
    private static final String CHAIN = "s0,1;s1,2;s2,3;s3,4;s4,5;s5,7;";

    public static void main(String[] args) {
        notShownThisEvening();
        asManyAsLimitLeaves();
        allHintsIfToCome();
        shownSoOftenAsTheyAre();
        fewestHints();
        limitOfRoutes();
        firstRowByNumbers();
        safeRoutes();
        safeNowToo();
        beyondTheLastOne();
        routeRefusals();
        thinkables();
        thinkableRefusals();
        chanceOf0To4();
        lowestTerms();
        notSoManyHints();
        limitLeavesLess();
        chanceRefusals();
        taughtToDare();
        bestDares();
        bestIsToCome();
        bestShortestFirst();
        noBest();
        coverFewest();
        coverLeastBits();
        coverOfWhom();
        noCover();
        spoiltFirst();
        spoiltOfWhom();
        noSpoilt();
        whatRefusals();
        nearlyDoesNotDare();
        nearlyOfWhom();
        nearlyTwice();
        nearlyLimit();
        nearlyPlaces();
        nearlyRefusals();
        nearlyItems();
        Due.finish();
    }

    private static void route(AilingKing x, int guest, int safe, int... hints) {
        Due.due("route " + guest + " " + safe, x.route(guest, safe, -1), hints.length);
        for (int k = 0; k < hints.length; k++) {
            Due.due("route " + guest + " " + safe + " at " + k, x.route(guest, safe, k), hints[k]);
        }
        Due.due("one beyond the last", x.route(guest, safe, hints.length), Due.NONE);
    }

    private static void noRoute(AilingKing x, int guest, int safe) {
        for (int k = -1; k < 3; k++) {
            Due.due("no route " + guest + " " + safe + " at " + k, x.route(guest, safe, k), Due.NONE);
        }
    }

    private static void chance(AilingKing x, int guest, int n, int above, int below) {
        Due.due("chance " + guest + " by " + n + ", above", x.chance(guest, n, 0), above);
        Due.due("chance " + guest + " by " + n + ", below", x.chance(guest, n, 1), below);
    }

    /** BEST GUEST, COVER, SPOILT: both answers of each. */
    private static void best(AilingKing x, int who, int hints) {
        Due.due("best guest", x.bestGuest(0), who);
        Due.due("best guest's hints", x.bestGuest(1), hints);
    }

    private static void cover(AilingKing x, int many, int which) {
        Due.due("cover", x.cover(0), many);
        Due.due("cover by", x.cover(1), which);
    }

    private static void spoilt(AilingKing x, int hint, int have) {
        Due.due("spoilt", x.spoilt(0), hint);
        Due.due("spoilt: have", x.spoilt(1), have);
    }

    private static void notShownThisEvening() {
        Due.sentence("AHEAD of a GUEST: if it is HERE, those HINTS that were not SHOWN this evening");
        AilingKing x = Due.castle("k7,6,5;s0,7;s1,0;s0,2;n1,0,0;n0,0,0;", 2);
        x.invite(0);
        route(x, 0, 0, 1, 0);
        x.show(0);
        noRoute(x, 0, 0);
        Due.due("thinkable", x.thinkable(0), 1 << 1 | 1 | 1 << 2);
        chance(x, 0, 2, 0, 1);
        chance(x, 0, 3, Due.NONE, Due.NONE);
        route(x, 1, 0, 0);
        x.undo();
        route(x, 0, 0, 1, 0);
        x.show(1);
        route(x, 0, 0, 0);
        x.speak();
        x.invite(1);
        route(x, 1, 0, 0);
        chance(x, 1, 3, 1, 2);
    }

    private static void asManyAsLimitLeaves() {
        Due.sentence("as many at most as LIMIT leaves");
        AilingKing x = Due.castle("k7,6,3;s0,1;s1,7;s6,5;s6,5;s6,5;n0,0,0;", 1);
        x.invite(0);
        route(x, 0, 0, 0, 1);
        x.show(2);
        route(x, 0, 0, 0, 1);
        Due.due("two are left", x.thinkable(0), 1 | 1 << 1 | 1 << 7);
        chance(x, 0, 2, 1, 12);
        chance(x, 0, 3, Due.NONE, Due.NONE);
        x.show(3);
        noRoute(x, 0, 0);
        Due.due("one is left", x.thinkable(0), 1 | 1 << 1);
        chance(x, 0, 1, 0, 1);
        chance(x, 0, 2, Due.NONE, Due.NONE);
        x.show(4);
        Due.due("none is left", x.thinkable(0), 1);
        chance(x, 0, 0, 0, 1);
        chance(x, 0, 1, Due.NONE, Due.NONE);
        x.undo();
        x.show(0);
        Due.due("none is left", x.thinkable(0), 1 << 1);
        noRoute(x, 0, 0);
        x = Due.castle("k7,6,1;s0,7;s1,7;n0,0,0;", 1);
        x.invite(0);
        route(x, 0, 0, 0);
        x.show(0);
        route(x, 0, 0);
        route(x, 0, 1);
    }

    private static void allHintsIfToCome() {
        Due.sentence("if it has not BEEN, all HINTS, LIMIT at most");
        AilingKing x = Due.castle("k7,6,2;s0,1;s1,7;n0,0,0;n0,0,0;n1,0,9;", 3);
        route(x, 1, 0, 0, 1);
        x.invite(0);
        x.show(0);
        x.show(1);
        route(x, 1, 0, 0, 1);
        route(x, 2, 0, 1);
        Due.due("thinkable", x.thinkable(1), 1 | 1 << 1 | 1 << 7);
        chance(x, 1, 2, 1, 2);
        chance(x, 1, 3, Due.NONE, Due.NONE);
        x.speak();
        Due.due("healed", x.count(4), 1);
        route(x, 1, 0, 0, 1);
    }

    private static void shownSoOftenAsTheyAre() {
        Due.sentence("SHOWN so often as they are (and by this)");
        AilingKing x = Due.castle("k7,6,2;w0,7;n0,9,0;n0,9,0;n0,9,0;n0,9,0;", 4);
        x.row(0, 0, 1);
        for (int g = 0; g < 4; g++) {
            boolean leads = g < 2;
            Due.due("route", x.route(3, 1, -1), leads ? 1 : Due.NONE);
            Due.due("thinkable", x.thinkable(3), leads ? 1 | 1 << 7 : 1);
            chance(x, 3, 1, leads ? 1 : 0, 1);
            cover(x, leads ? 1 : Due.NONE, leads ? 1 : Due.NONE);
            spoilt(x, 0, 0);
            Due.due("nearly", x.nearly(0, 0, 1), leads ? 15 - (1 << g) + 1 : 0);
            x.invite(g);
            Due.due("route", x.route(g, 0, 0), leads ? 0 : Due.NONE);
            Due.due("thinkable", x.thinkable(g), leads ? 1 | 1 << 7 : 1);
            x.show(0);
            x.speak();
            if (g == 0) {
                x.undo();
                x.undo();
                x.undo();
                Due.due("not SHOWN", x.hint(0, 2), 0);
                x.invite(0);
                x.show(0);
                x.speak();
            }
        }
    }

    private static void fewestHints() {
        Due.sentence("ROUTE: the fewest HINTS AHEAD by which it thinks of QUESTION at last");
        AilingKing x = Due.castle("k7,6,5;" + CHAIN + "s2,7;n0,0,0;n2,0,0;n5,0,0;n7,0,0;n6,0,0;", 5);
        route(x, 0, 0, 0, 1, 6);
        route(x, 1, 0, 6);
        route(x, 2, 0, 5);
        route(x, 3, 0);
        noRoute(x, 4, 0);
        x = Due.castle("k0,1,5;g7,0;m0,3;d2,0;w4,0;n6,0,0;n7,0,0;n3,0,0;n0,0,0;n2,0,0;n4,0,0;", 6);
        route(x, 0, 0, 0);
        route(x, 1, 0, 0);
        route(x, 2, 0, 1);
        route(x, 3, 0);
        route(x, 4, 0, 2);
        route(x, 5, 0, 3);
    }

    private static void limitOfRoutes() {
        Due.sentence("all HINTS, LIMIT at most");
        for (int limit = 1; limit <= 5; limit++) {
            AilingKing x = Due.castle("k7,6," + limit + ";" + CHAIN + "n0,0,0;n1,0,0;n2,0,0;n3,0,0;n4,0,0;n5,0,0;", 6);
            for (int g = 0; g < 6; g++) {
                int far = 6 - g;
                Due.due("LIMIT " + limit, x.route(g, 0, -1), far <= limit ? far : Due.NONE);
                Due.due("its last", x.route(g, 0, far - 1), far <= limit ? 5 : Due.NONE);
                Due.due("SAFE", x.route(g, 1, -1), far <= limit ? far : Due.NONE);
                int reach = Math.min(limit, far);
                Due.due("thinkable", x.thinkable(g), (far <= limit ? 1 << 7 : 0)
                    | (1 << Math.min(6, g + reach + 1)) - (1 << g));
            }
            x.invite(0);
            Due.due("who is HERE", x.route(0, 0, -1), Due.NONE);
        }
    }

    private static void firstRowByNumbers() {
        Due.sentence("of several the first row by numbers");
        AilingKing x = Due.castle("k7,6,3;s3,7;s2,7;s0,3;s0,2;s0,3;s2,7;n0,0,0;n2,0,0;n3,0,0;", 3);
        route(x, 0, 0, 2, 0);
        route(x, 1, 0, 1);
        route(x, 2, 0, 0);
        x = Due.castle("k7,6,3;s2,7;s0,1;s0,2;s1,7;s1,2;n0,0,0;", 1);
        route(x, 0, 0, 1, 3);
        x.invite(0);
        x.show(3);
        route(x, 0, 0, 2, 0);
        x = Due.castle("k7,6,3;s5,7;s0,1;s0,2;s2,4;s1,5;s1,4;s4,7;n0,0,0;", 1);
        route(x, 0, 0, 1, 4, 0);
        x = Due.castle("k7,6,3;d0,1;d0,1;d1,7;d7,1;n0,0,0;n1,0,0;", 2);
        route(x, 0, 0, 0, 2);
        route(x, 1, 1, 2);
        x = Due.castle("k7,6,3;s0,6;s0,1;s1,7;s6,7;n0,0,0;", 1);
        route(x, 0, 0, 0, 3);
        route(x, 0, 1, 1, 2);
    }

    private static void safeRoutes() {
        Due.sentence("SAFE, if it thinks of WRONG never");
        AilingKing x = Due.castle("k7,6,3;s0,6;s6,7;s0,1;s1,2;s2,7;n0,0,0;n5,0,0;n1,0,0;", 3);
        route(x, 0, 0, 0, 1);
        route(x, 0, 1, 2, 3, 4);
        noRoute(x, 1, 1);
        route(x, 2, 1, 3, 4);
        x = Due.castle("k7,6,2;s0,6;s6,7;s0,1;s1,2;s2,7;n0,0,0;", 1);
        route(x, 0, 0, 0, 1);
        noRoute(x, 0, 1);
        x = Due.castle("k7,6,2;g6,7;s5,6;n5,0,0;", 1);
        route(x, 0, 1, 0);
    }

    private static void safeNowToo() {
        Due.sentence("it thinks of WRONG never (now, too)");
        AilingKing x = Due.castle("k7,6,3;s6,7;s6,0;s0,7;s0,6;n6,0,0;n0,0,0;n7,0,0;", 3);
        route(x, 0, 0, 0);
        noRoute(x, 0, 1);
        route(x, 1, 1, 2);
        route(x, 2, 1);
        x.invite(1);
        x.show(3);
        route(x, 1, 0, 0);
        noRoute(x, 1, 1);
    }

    private static void beyondTheLastOne() {
        Due.sentence("how many HINTS (k = -1), the k-th (0 on); NONE: also beyond the last one");
        AilingKing x = Due.castle("k7,6,5;s0,1;s1,2;s2,3;s3,4;s4,7;n0,0,0;n7,0,0;", 2);
        route(x, 0, 0, 0, 1, 2, 3, 4);
        int[] beyond = {5, 6, 7, 8, 40, MAX};
        for (int k : beyond) {
            Due.due("k " + k, x.route(0, 0, k), Due.NONE);
            Due.due("k " + k, x.route(0, 1, k), Due.NONE);
        }
        Due.due("none needed", x.route(1, 0, -1), 0);
        Due.due("none needed", x.route(1, 0, 0), Due.NONE);
        Due.due("none needed", x.route(1, 1, MAX), Due.NONE);
    }

    private static void routeRefusals() {
        Due.sentence("route: BAD; STATE: it has BEEN");
        AilingKing x = Due.castle("k7,6,5;s0,7;n0,0,0;n0,0,0;", 2);
        x.invite(0);
        Due.due("HERE", x.route(0, 0, 0), 0);
        x.speak();
        Due.due("BEEN", x.route(0, 0, -1), Due.STATE);
        Due.due("BEEN", x.route(0, 1, 0), Due.STATE);
        Due.due("BEEN", x.route(0, 0, MAX), Due.STATE);
        int[] none = {-1, 2, 6, MIN, MAX};
        for (int number : none) {
            Due.due("guest " + number, x.route(number, 0, 0), Due.BAD);
            Due.due("safe " + number, x.route(1, number, 0), Due.BAD);
            Due.due("BAD ahead of STATE", x.route(0, number, 0), Due.BAD);
        }
        int[] noK = {-2, -3, MIN};
        for (int k : noK) {
            Due.due("k " + k, x.route(1, 0, k), Due.BAD);
            Due.due("BAD ahead of STATE", x.route(0, 0, k), Due.BAD);
        }
    }

    private static void thinkables() {
        Due.sentence("THOUGHTS (bits) of which it can think at last, by any HINTS AHEAD (none, too)");
        AilingKing x = Due.castle("k7,6,1;n0,0,0;n7,0,0;", 2);
        Due.due("no hints", x.thinkable(0), 1);
        Due.due("no hints", x.thinkable(1), 1 << 7);
        x = Due.castle("k7,6,5;s0,7;s0,1;s1,6;n0,0,0;n6,0,0;", 2);
        Due.due("four", x.thinkable(0), 1 | 2 | 1 << 6 | 1 << 7);
        Due.due("its own", x.thinkable(1), 1 << 6);
        x = Due.castle("k7,6,5;d0,1;d1,2;d2,3;d3,4;d4,5;d5,6;d6,7;n2,0,0;n0,0,0;n7,0,0;", 3);
        Due.due("all", x.thinkable(0), 255);
        Due.due("five on", x.thinkable(1), 63);
        Due.due("five back", x.thinkable(2), 255 - 3);
    }

    private static void thinkableRefusals() {
        Due.sentence("thinkable: BAD; STATE: it has BEEN");
        AilingKing x = Due.castle("k7,6,1;s0,1;n0,0,0;n0,0,0;", 2);
        int[] none = {-1, 2, 6, MIN, MAX};
        for (int guest : none) {
            Due.due("guest " + guest, x.thinkable(guest), Due.BAD);
        }
        x.invite(1);
        Due.due("HERE", x.thinkable(1), 3);
        x.speak();
        Due.due("BEEN", x.thinkable(1), Due.STATE);
        Due.due("to come", x.thinkable(0), 3);
    }

    private static void chanceOf0To4() {
        Due.sentence("if n HINTS AHEAD (0 to 4) are SHOWN, all rows of unlike ones alike likely");
        AilingKing x = Due.castle("k4,6,5;s0,1;s1,2;s2,3;s3,4;s4,5;n0,0,0;n4,0,0;n3,0,0;n1,0,0;", 4);
        chance(x, 0, 0, 0, 1);
        chance(x, 1, 0, 1, 1);
        chance(x, 0, 1, 0, 1);
        chance(x, 2, 1, 1, 5);
        chance(x, 1, 1, 4, 5);
        // Of 20 rows of two, 8 have hint 3, and one of these goes on by hint 4.
        chance(x, 2, 2, 7, 20);
        // Of 60 rows of three, 1 2 3 alone; of 120 of four, that with 0 anywhere (4), or with 4 ahead of 3 (3).
        chance(x, 3, 3, 1, 60);
        chance(x, 3, 4, 7, 120);
        chance(x, 0, 4, 1, 120);
    }

    private static void lowestTerms() {
        Due.sentence("fractions, told as two numbers in lowest terms (0 is 0 by 1)");
        AilingKing x = Due.castle("k7,6,5;s0,7;s0,7;s0,7;s0,7;s1,2;s1,2;s1,2;s1,2;n0,0,0;n7,0,0;n5,0,0;", 3);
        chance(x, 0, 1, 1, 2);
        chance(x, 0, 2, 11, 14);
        chance(x, 0, 3, 13, 14);
        chance(x, 0, 4, 69, 70);
        for (int n = 0; n <= 4; n++) {
            chance(x, 1, n, 1, 1);
            chance(x, 2, n, 0, 1);
        }
        chance(x, 0, 0, 0, 1);
        x = Due.castle("k7,6,5;s0,7;s1,2;s1,2;s1,2;n0,0,0;", 1);
        chance(x, 0, 1, 1, 4);
        chance(x, 0, 2, 1, 2);
        chance(x, 0, 3, 3, 4);
        chance(x, 0, 4, 1, 1);
    }

    private static void notSoManyHints() {
        Due.sentence("NONE: there are not so many");
        StringBuilder hints = new StringBuilder();
        for (int many = 0; many <= 5; many++) {
            AilingKing x = Due.castle("k7,6,5;" + hints + "n7,0,0;n1,0,0;", 2);
            for (int n = 0; n <= 4; n++) {
                boolean are = n <= many;
                chance(x, 0, n, are ? 1 : Due.NONE, are ? 1 : Due.NONE);
                chance(x, 1, n, are ? 0 : Due.NONE, are ? 1 : Due.NONE);
            }
            if (many > 0) {
                x.invite(0);
                x.show(0);
                for (int n = 0; n <= 4; n++) {
                    chance(x, 0, n, n < many ? 1 : Due.NONE, n < many ? 1 : Due.NONE);
                }
            }
            hints.append("s2,3;");
        }
    }

    private static void limitLeavesLess() {
        Due.sentence("NONE: LIMIT leaves less");
        for (int limit = 1; limit <= 5; limit++) {
            String hints = "s2,3;s2,3;s2,3;s2,3;s2,3;s2,3;s2,3;s2,3;";
            AilingKing x = Due.castle("k7,6," + limit + ";" + hints + "n7,0,0;n7,0,0;", 2);
            x.invite(1);
            for (int shown = 0; shown <= limit; shown++) {
                for (int n = 0; n <= 4; n++) {
                    chance(x, 0, n, n <= limit ? 1 : Due.NONE, n <= limit ? 1 : Due.NONE);
                    chance(x, 1, n, n <= limit - shown ? 1 : Due.NONE, n <= limit - shown ? 1 : Due.NONE);
                }
                Due.due("show", x.show(shown), shown < limit ? 7 : Due.FULL);
            }
        }
    }

    private static void chanceRefusals() {
        Due.sentence("chance: BAD; STATE: it has BEEN");
        AilingKing x = Due.castle("k7,6,1;s0,7;n0,0,0;n0,0,0;", 2);
        int[] none = {-1, 2, 6, MIN, MAX};
        int[] noN = {-1, 5, MIN, MAX};
        for (int turn = 0; turn < 2; turn++) {
            for (int number : none) {
                Due.due("guest " + number, x.chance(number, 0, 0), Due.BAD);
                Due.due("what " + number, x.chance(0, 0, number), Due.BAD);
            }
            for (int n : noN) {
                Due.due("n " + n, x.chance(0, n, 0), Due.BAD);
                Due.due("n " + n, x.chance(1, n, 1), Due.BAD);
            }
            Due.due("4", x.chance(0, 4, 0), turn == 0 ? Due.NONE : Due.STATE);
            Due.due("0", x.chance(0, 0, 1), turn == 0 ? 1 : Due.STATE);
            Due.due("1", x.chance(1, 1, 1), 1);
            x.invite(0);
            Due.due("HERE", x.chance(0, 1, 0), turn == 0 ? 1 : Due.STATE);
            x.speak();
        }
    }

    private static void taughtToDare() {
        Due.sentence("TAUGHT: by how much it is to be bolder to dare (0: it dares). BAD");
        int[][] hearts = {{5, 4}, {5, 5}, {5, 6}, {0, 0}, {20, 0}, {0, 20}, {20, 20}, {20, 19}, {1, 0}, {0, 1}};
        for (int[] heart : hearts) {
            AilingKing x = Due.castle("k7,6,1;n0," + heart[0] + "," + heart[1] + ";", 1);
            int by = Math.max(0, heart[0] - heart[1]);
            Due.due("FEAR " + heart[0] + ", BOLD " + heart[1], x.taught(0), by);
            if (by > 0) {
                x.tale(0, by);
                Due.due("dares then", x.taught(0), 0);
                x.tale(0, -1);
                Due.due("not so bold", x.taught(0), 1);
                x.undo();
                x.undo();
            }
            x.invite(0);
            Due.due("HERE", x.taught(0), by);
            x.speak();
            Due.due("BEEN", x.taught(0), by);
            int[] none = {-1, 1, 6, MIN, MAX};
            for (int guest : none) {
                Due.due("guest " + guest, x.taught(guest), Due.BAD);
            }
        }
    }

    private static void bestDares() {
        Due.sentence("BEST GUEST: of those who dare");
        AilingKing x = Due.castle("k7,6,2;s0,7;n7,5,4;n0,5,5;", 2);
        best(x, 1, 1);
        x.tale(0, 1);
        best(x, 0, 0);
        x.tale(0, -1);
        best(x, 1, 1);
        x.tale(1, -1);
        best(x, Due.NONE, Due.NONE);
        x.tale(1, 2);
        best(x, 1, 1);
    }

    private static void bestIsToCome() {
        Due.sentence("of those who have not BEEN, are not HERE");
        AilingKing x = Due.castle("k7,6,2;s0,1;s1,7;n1,0,0;n0,0,0;n1,0,0;", 3);
        best(x, 0, 1);
        x.invite(0);
        best(x, 2, 1);
        x.show(1);
        x.show(0);
        best(x, 2, 1);
        x.speak();
        best(x, 2, 1);
        x = Due.castle("k7,6,2;s0,1;s1,7;n1,0,0;n0,0,0;n1,0,0;", 3);
        x.invite(0);
        x.speak();
        best(x, 2, 1);
        x.invite(2);
        best(x, 1, 2);
        x.undo();
        best(x, 2, 1);
    }

    private static void bestShortestFirst() {
        Due.sentence("the one with the shortest ROUTE, of several the first");
        AilingKing x = Due.castle("k7,6,3;s0,1;s1,2;s2,7;n0,0,0;n1,0,0;n1,0,0;n2,0,9;n2,0,0;n5,0,0;", 6);
        best(x, 3, 1);
        x.invite(3);
        best(x, 4, 1);
        x.speak();
        x.invite(4);
        x.speak();
        best(x, 1, 2);
        x.invite(1);
        x.speak();
        x.invite(2);
        x.speak();
        best(x, 0, 3);
        x.invite(0);
        best(x, Due.NONE, Due.NONE);
    }

    private static void noBest() {
        Due.sentence("who; how many HINTS; NONE");
        best(Due.castle("k7,6,3;", 0), Due.NONE, Due.NONE);
        best(Due.castle("k7,6,3;s0,7;", 0), Due.NONE, Due.NONE);
        best(Due.castle("k7,6,3;n0,0,0;", 1), Due.NONE, Due.NONE);
        best(Due.castle("k7,6,3;n7,0,0;", 1), 0, 0);
        best(Due.castle("k7,6,1;s0,1;s1,7;n0,0,0;", 1), Due.NONE, Due.NONE);
        best(Due.castle("k7,6,2;s0,1;s1,7;n0,0,0;", 1), 0, 2);
        best(Due.castle("k7,6,2;s0,6;s6,7;n0,0,0;", 1), 0, 2);
    }

    private static void coverFewest() {
        Due.sentence("COVER: the fewest HINTS so that each GUEST has a ROUTE by these alone");
        cover(Due.castle("k7,6,2;s0,7;s1,7;g1,7;n0,9,0;n1,9,0;", 2), 1, 4);
        cover(Due.castle("k7,6,2;s0,7;s1,7;s1,0;n0,9,0;n1,9,0;", 2), 2, 3);
        cover(Due.castle("k7,6,1;s0,7;s1,0;s1,7;n0,9,0;n1,9,0;", 2), 2, 5);
        String six = "n0,0,0;n1,0,0;n2,0,0;n3,0,0;n4,0,0;n5,0,0;";
        cover(Due.castle("k7,6,2;s7,5;s0,6;s1,7;s2,7;s3,7;s4,7;s5,7;s6,7;" + six, 6), 7, 254);
        cover(Due.castle("k7,6,2;s1,5;s0,6;s1,7;s2,7;s3,7;s4,7;s5,7;s6,7;" + six, 6), 7, 251);
        cover(Due.castle("k7,6,5;s0,1;s1,2;s2,3;s3,4;s4,7;n0,0,0;", 1), 5, 31);
    }

    private static void coverLeastBits() {
        Due.sentence("which (bits), of several the least");
        cover(Due.castle("k7,6,2;s0,7;s0,7;n0,9,0;", 1), 1, 1);
        cover(Due.castle("k7,6,2;s3,4;s0,7;s0,7;n0,9,0;", 1), 1, 2);
        cover(Due.castle("k7,6,2;s0,5;s0,1;s1,7;s5,7;n0,9,0;", 1), 2, 6);
        cover(Due.castle("k7,6,2;s0,5;s0,1;s5,7;s1,7;n0,9,0;", 1), 2, 5);
        cover(Due.castle("k7,6,2;s0,1;s1,7;s0,7;n0,9,0;", 1), 1, 4);
        cover(Due.castle("k7,6,2;s3,4;s3,4;s3,4;s3,4;s3,4;s3,4;s3,4;s0,7;n0,9,0;", 1), 1, 128);
    }

    private static void coverOfWhom() {
        Due.sentence("each GUEST who has not BEEN, and is not HERE");
        AilingKing x = Due.castle("k7,6,2;s0,7;s1,7;s2,7;n0,9,0;n1,9,0;n2,9,0;", 3);
        cover(x, 3, 7);
        x.invite(1);
        cover(x, 2, 5);
        x.speak();
        cover(x, 2, 5);
        x.invite(2);
        cover(x, 1, 1);
        x.speak();
        x.invite(0);
        cover(x, 0, 0);
        x.speak();
        cover(x, 0, 0);
        x.undo();
        x.undo();
        cover(x, 1, 1);
        cover(Due.castle("k7,6,2;s0,7;", 0), 0, 0);
        cover(Due.castle("k7,6,2;s0,7;n7,9,0;n7,9,0;", 2), 0, 0);
    }

    private static void noCover() {
        Due.sentence("COVER: NONE");
        cover(Due.castle("k7,6,2;n0,0,0;", 1), Due.NONE, Due.NONE);
        cover(Due.castle("k7,6,2;s0,7;n0,0,0;n1,0,0;", 2), Due.NONE, Due.NONE);
        cover(Due.castle("k7,6,1;s0,7;s1,0;n0,0,0;n1,0,0;", 2), Due.NONE, Due.NONE);
        cover(Due.castle("k7,6,2;s0,7;s1,0;n0,0,0;n1,0,0;", 2), 2, 3);
        AilingKing x = Due.castle("k7,6,2;s0,7;n0,0,0;n1,0,0;", 2);
        x.invite(1);
        cover(x, 1, 1);
        x.undo();
        x.invite(0);
        cover(x, Due.NONE, Due.NONE);
    }

    private static void spoiltFirst() {
        Due.sentence("SPOILT: the HINT without which fewest of these have a ROUTE, of several the first");
        spoilt(Due.castle("k7,6,2;s0,7;s1,7;n0,9,0;n1,9,0;", 2), 0, 1);
        spoilt(Due.castle("k7,6,2;s0,7;s1,7;n0,9,0;n1,9,0;n1,9,0;", 3), 1, 1);
        spoilt(Due.castle("k7,6,2;s3,4;s3,4;s0,7;n0,9,0;", 1), 2, 0);
        spoilt(Due.castle("k7,6,2;s3,4;s0,7;s0,7;n0,9,0;", 1), 0, 1);
        spoilt(Due.castle("k7,6,2;s0,7;s3,4;s3,4;s3,4;s3,4;s3,4;s3,4;s1,7;n0,9,0;n1,9,0;n1,9,0;", 3), 7, 1);
        spoilt(Due.castle("k7,6,1;s0,1;s1,7;s0,7;n0,9,0;n1,9,0;", 2), 1, 1);
        spoilt(Due.castle("k7,6,1;s1,0;s0,7;s1,7;n1,9,0;", 1), 2, 0);
    }

    private static void spoiltOfWhom() {
        Due.sentence("SPOILT: fewest of these (who have not BEEN, and are not HERE)");
        AilingKing x = Due.castle("k7,6,2;s0,7;s1,7;n0,9,0;n1,9,0;n1,9,0;n0,9,0;n0,9,0;n7,9,0;", 6);
        spoilt(x, 0, 3);
        x.invite(0);
        spoilt(x, 0, 3);
        x.speak();
        spoilt(x, 0, 3);
        x.invite(3);
        spoilt(x, 1, 2);
        x.speak();
        x.invite(5);
        spoilt(x, 1, 1);
        x.speak();
        for (int g = 1; g < 5; g++) {
            if (g != 3) {
                x.invite(g);
                x.speak();
            }
        }
        spoilt(x, 0, 0);
    }

    private static void noSpoilt() {
        Due.sentence("SPOILT: how many have; NONE: there are no HINTS");
        spoilt(Due.castle("k7,6,2;", 0), Due.NONE, Due.NONE);
        spoilt(Due.castle("k7,6,2;n7,0,0;n0,0,0;", 2), Due.NONE, Due.NONE);
        spoilt(Due.castle("k7,6,2;s0,7;", 0), 0, 0);
        spoilt(Due.castle("k7,6,2;s0,7;n7,0,0;n7,0,0;", 2), 0, 2);
        spoilt(Due.castle("k7,6,2;s0,7;n0,0,0;n7,0,0;", 2), 0, 1);
        spoilt(Due.castle("k7,6,2;s0,1;s2,1;n0,0,0;", 1), 0, 0);
    }

    private static void whatRefusals() {
        Due.sentence("bestGuest, cover, spoilt: BAD; STATE: no CASTLE (ahead of BAD)");
        int[] none = {-1, 2, MIN, MAX};
        AilingKing x = new AilingKing();
        AilingKing y = Due.castle("k7,6,2;s0,7;n0,0,0;", 1);
        for (int what : none) {
            int[] state = {x.bestGuest(what), x.cover(what), x.spoilt(what)};
            int[] bad = {y.bestGuest(what), y.cover(what), y.spoilt(what)};
            for (int i = 0; i < 3; i++) {
                Due.due("no CASTLE " + what, state[i], Due.STATE);
                Due.due("what " + what, bad[i], Due.BAD);
            }
        }
        best(x, Due.STATE, Due.STATE);
        cover(x, Due.STATE, Due.STATE);
        spoilt(x, Due.STATE, Due.STATE);
        Due.feed(x, "k7,7");
        x.castle();
        cover(x, Due.STATE, Due.STATE);
    }

    /** A castle with a row 0 of bytes as told. */
    private static AilingKing withRow(String text, int guests, int... items) {
        AilingKing x = Due.castle(text, guests);
        Due.due("row", x.row(0, 0, items.length), items.length);
        for (int i = 0; i < items.length; i++) {
            x.set(0, i, items[i]);
        }
        return x;
    }

    private static void nearlyDoesNotDare() {
        Due.sentence("NEARLY: GUESTS who would think of QUESTION then, and do not dare");
        AilingKing x = withRow("k7,6,1;s0,7;n0,5,4;n0,5,5;n0,5,6;n0,20,19;n0,0,0;n0,20,20;", 6, 0);
        Due.due("nearly", x.nearly(0, 0, 1), 1 | 8);
        Due.due("by none", x.nearly(0, 0, 0), 0);
        x.tale(0, 1);
        x.tale(1, -1);
        Due.due("nearly then", x.nearly(0, 0, 1), 2 | 8);
        x = withRow("k7,6,1;s0,6;s6,7;n6,1,0;n7,1,0;n0,1,0;", 3, 0, 1);
        Due.due("WRONG is not QUESTION", x.nearly(0, 0, 1), 2);
        Due.due("by way of WRONG", x.nearly(0, 0, 2), 7);
    }

    private static void nearlyOfWhom() {
        Due.sentence("NEARLY: GUESTS (bits) who have not BEEN, and are not HERE");
        AilingKing x = withRow("k7,6,1;s0,7;n0,5,4;n0,5,4;n7,5,4;n0,5,4;n0,5,4;n0,5,4;", 6, 0);
        Due.due("all", x.nearly(0, 0, 1), 63);
        Due.due("by none", x.nearly(0, 0, 0), 4);
        x.invite(5);
        Due.due("one is HERE", x.nearly(0, 0, 1), 31);
        x.speak();
        Due.due("one has BEEN", x.nearly(0, 0, 1), 31);
        x.invite(0);
        Due.due("one is HERE, too", x.nearly(0, 0, 1), 30);
        x.undo();
        x.undo();
        x.undo();
        Due.due("all again", x.nearly(0, 0, 1), 63);
    }

    private static void nearlyTwice() {
        Due.sentence("HINTS that are SHOWN one after another (perhaps one twice)");
        AilingKing x = withRow("k7,6,1;d0,7;w0,7;s7,0;n0,1,0;n7,1,0;n0,1,0;", 3, 0, 0, 0, 1, 2, 1, 2, 1, 1);
        int[] due = {2, 5, 2, 5, 7, 0, 7, 0, 0};
        for (int n = 0; n < due.length; n++) {
            Due.due("nearly " + n, x.nearly(0, 0, n), due[n]);
        }
        x.invite(0);
        x.show(1);
        x.speak();
        Due.due("SHOWN once ahead: it leads once", x.nearly(0, 3, 1), 6);
        Due.due("not twice", x.nearly(0, 3, 3), 0);
        x.invite(2);
        x.show(1);
        Due.due("SHOWN twice ahead: never", x.nearly(0, 3, 1), 2);
        Due.due("nothing changes", x.hint(1, 2), 2);
    }

    private static void nearlyLimit() {
        Due.sentence("LIMIT does not matter; n HINTS (0 to 8)");
        AilingKing x = withRow("k7,6,1;s0,1;s1,2;s2,3;s3,4;s4,5;s5,6;s6,7;s7,0;n0,1,0;", 1, 0, 1, 2, 3, 4, 5, 6, 7, 0);
        for (int n = 0; n <= 8; n++) {
            Due.due("nearly " + n, x.nearly(0, 0, n), n == 7 ? 1 : 0);
        }
        Due.due("nearly 9", x.nearly(0, 0, 9), Due.BAD);
        Due.due("nearly 8 from 1 on", x.nearly(0, 1, 8), 0);
        Due.due("nearly -1", x.nearly(0, 0, -1), Due.BAD);
        x.set(0, 7, 6);
        Due.due("nearly 8", x.nearly(0, 0, 8), 1);
    }

    private static void nearlyPlaces() {
        Due.sentence("by n HINTS of a ROW from i on: PLACE");
        AilingKing x = withRow("k7,6,1;s0,7;n0,1,0;", 1, 0, 0, 0);
        Due.due("all", x.nearly(0, 0, 3), 1);
        Due.due("one more", x.nearly(0, 0, 4), Due.PLACE);
        Due.due("to the end", x.nearly(0, 1, 2), 1);
        Due.due("beyond the end", x.nearly(0, 1, 3), Due.PLACE);
        Due.due("the last", x.nearly(0, 2, 1), 1);
        Due.due("behind the last", x.nearly(0, 3, 1), Due.PLACE);
        Due.due("none at the end", x.nearly(0, 3, 0), 0);
        Due.due("none beyond the end", x.nearly(0, 4, 0), Due.PLACE);
        int[] none = {-1, -2, MIN, MAX};
        for (int i : none) {
            for (int n = 0; n <= 8; n += 4) {
                Due.due("i " + i, x.nearly(0, i, n), Due.PLACE);
            }
        }
        x.row(1, 0, 0);
        Due.due("none of none", x.nearly(1, 0, 0), 0);
        Due.due("one of none", x.nearly(1, 0, 1), Due.PLACE);
    }

    private static void nearlyRefusals() {
        Due.sentence("nearly: BAD: ROW, n; STATE: no CASTLE (ahead of BAD); NULL; PLACE; then BAD");
        AilingKing x = new AilingKing();
        x.row(0, 0, 1);
        int[] none = {-1, 9, MIN, MAX};
        for (int number : none) {
            Due.due("STATE ahead of BAD", x.nearly(number, 0, 0), Due.STATE);
            Due.due("STATE ahead of BAD", x.nearly(0, 0, number), Due.STATE);
        }
        Due.due("STATE ahead of NULL", x.nearly(1, 0, 0), Due.STATE);
        Due.due("STATE ahead of PLACE", x.nearly(0, 2, 0), Due.STATE);
        x = withRow("k7,6,1;s0,7;n0,1,0;", 1, 1, 0);
        for (int number : none) {
            Due.due("ROW " + number, x.nearly(number, 0, 0), Due.BAD);
            Due.due("n " + number, x.nearly(0, 0, number), Due.BAD);
            Due.due("n ahead of NULL " + number, x.nearly(1, 0, number), Due.BAD);
            Due.due("n ahead of PLACE " + number, x.nearly(0, -1, number), Due.BAD);
        }
        Due.due("ROW 8", x.nearly(8, 0, 0), Due.BAD);
        Due.due("NULL ahead of PLACE", x.nearly(7, -1, 1), Due.NULL);
        Due.due("PLACE ahead of an ITEM", x.nearly(0, 0, 3), Due.PLACE);
        Due.due("an ITEM", x.nearly(0, 0, 2), Due.BAD);
        Due.due("status of PLACE yet", x.status(), 2);
    }

    private static void nearlyItems() {
        Due.sentence("BAD: an ITEM that is none of the HINTS");
        AilingKing x = Due.castle("k7,6,1;s0,7;s1,7;n0,1,0;n1,1,0;", 2);
        x.row(0, 2, 10);
        int[] none = {-1, 2, 3, 7, 8, 256, 65536, MIN, MAX};
        for (int item : none) {
            x.set(0, 4, item);
            for (int i = 0; i < 8; i++) {
                Due.due("item " + item + " from " + i, x.nearly(0, i, 2), i == 3 || i == 4 ? Due.BAD : 1);
            }
            Due.due("none of it", x.nearly(0, 4, 0), 0);
            Due.due("up to it", x.nearly(0, 0, 4), 1);
            Due.due("with it", x.nearly(0, 0, 5), Due.BAD);
        }
        x.set(0, 4, 1);
        Due.due("the last HINT", x.nearly(0, 0, 5), 3);
        x = Due.castle("k7,6,1;n7,1,0;", 1);
        x.row(0, 2, 1);
        Due.due("there are no HINTS", x.nearly(0, 0, 1), Due.BAD);
        Due.due("by none", x.nearly(0, 0, 0), 1);
    }
}
