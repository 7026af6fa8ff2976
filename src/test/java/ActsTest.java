/** Promises 9 to 16 and 31: guests, hints, acts and their undoing, counts. */
public final class ActsTest {
    private static final int MIN = Integer.MIN_VALUE, MAX = Integer.MAX_VALUE;

    public static void main(String[] args) {
        hintsLead();
        wornHintsWearOut();
        invitations();
        showings();
        askings();
        tales();
        undoing();
        undoingAcrossEvenings();
        only24AreKept();
        whatIsTold();
        Due.finish();
    }

    /** Where a hint leads from each of the eight thoughts. */
    private static void leadsAs(AilingKing x, int hint, int... to) {
        for (int thought = 0; thought < 8; thought++) {
            Due.due("leads " + hint + " from " + thought, x.leads(hint, thought), to[thought]);
        }
    }

    private static void hintsLead() {
        AilingKing x = Due.castle("k7,6,5;s2,5;g3,6;g0,4;g4,3;w2,5;m2,5;d2,5;", 0);
        leadsAs(x, 0, 0, 1, 5, 3, 4, 5, 6, 7);
        leadsAs(x, 1, 0, 1, 6, 6, 4, 5, 6, 7);
        leadsAs(x, 2, 4, 1, 2, 3, 4, 5, 6, 7);
        leadsAs(x, 3, 0, 1, 2, 3, 3, 5, 6, 7);
        leadsAs(x, 4, 0, 1, 5, 3, 4, 5, 6, 7);
        leadsAs(x, 5, 0, 1, 2, 3, 4, 2, 6, 7);
        leadsAs(x, 6, 0, 1, 5, 3, 4, 2, 6, 7);
        int[] none = {-1, 7, MIN, MAX};
        for (int hint : none) {
            Due.due("leads of none " + hint, x.leads(hint, 0), Due.BAD);
        }
        int[] noThought = {-1, 8, MIN, MAX};
        for (int thought : noThought) {
            Due.due("leads from none " + thought, x.leads(0, thought), Due.BAD);
        }
    }

    private static void wornHintsWearOut() {
        AilingKing x = Due.castle("k7,6,5;w2,5;s5,2;n2,0,0;n2,0,0;n2,0,0;", 3);
        for (int g = 0; g < 3; g++) {
            Due.due("worn leads from 2", x.leads(0, 2), g < 2 ? 5 : 2);
            x.invite(g);
            Due.due("worn shown", x.show(0), g < 2 ? 5 : 2);
            x.speak();
            Due.due("how often", x.hint(0, 2), g + 1);
        }
        x.undo();
        x.undo();
        Due.due("twice again", x.hint(0, 2), 2);
        Due.due("worn yet", x.leads(0, 2), 2);
        x.undo();
        x.undo();
        x.undo();
        Due.due("once again", x.hint(0, 2), 1);
        Due.due("leads again", x.leads(0, 2), 5);
    }

    private static void invitations() {
        AilingKing x = Due.castle("k1,2,2;s0,1;n0,5,5;n1,5,5;n4,5,5;", 3);
        Due.due("none", x.invite(-1), Due.BAD);
        Due.due("none", x.invite(3), Due.BAD);
        Due.due("invite", x.invite(2), 4);
        Due.due("here", x.count(3), 2);
        Due.due("here", x.guest(2, 3), 1);
        Due.due("BAD ahead of STATE", x.invite(3), Due.BAD);
        Due.due("somebody is here", x.invite(0), Due.STATE);
        Due.due("itself is here", x.invite(2), Due.STATE);
        Due.due("asks nothing", x.speak(), Due.NONE);
        Due.due("has been", x.invite(2), Due.STATE);
        Due.due("invite", x.invite(1), 1);
        Due.due("heals", x.speak(), 1);
        Due.due("the king is healed", x.invite(0), Due.STATE);
        x.undo();
        x.undo();
        Due.due("sick again", x.invite(0), 0);
    }

    private static void showings() {
        AilingKing x = Due.castle("k7,6,2;s0,1;m3,1;g4,5;n0,0,0;n3,0,0;", 2);
        Due.due("none", x.show(-1), Due.BAD);
        Due.due("none", x.show(3), Due.BAD);
        Due.due("nobody is here", x.show(0), Due.STATE);
        x.invite(0);
        Due.due("show", x.show(0), 1);
        Due.due("tonight", x.hint(0, 3), 1);
        Due.due("not tonight", x.hint(1, 3), 0);
        Due.due("mind", x.guest(0, 0), 1);
        Due.due("was shown", x.show(0), Due.STATE);
        Due.due("show", x.show(1), 3);
        Due.due("two tonight", x.count(6), 2);
        Due.due("limit", x.show(2), Due.FULL);
        Due.due("STATE ahead of FULL", x.show(1), Due.STATE);
        Due.due("BAD ahead of STATE", x.show(3), Due.BAD);
        x.speak();
        Due.due("nobody: none tonight", x.count(6), 0);
        Due.due("nobody: not tonight", x.hint(0, 3), 0);
        Due.due("shown ahead", x.hint(0, 2), 1);
        x.invite(1);
        Due.due("a new evening", x.hint(0, 3), 0);
        Due.due("stays", x.show(0), 3);
        Due.due("twice", x.hint(0, 2), 2);
        Due.due("sung from one less", x.show(2), 5);
    }

    private static void askings() {
        AilingKing x = Due.castle("k7,6,5;n7,5,4;n6,5,4;n6,5,5;n6,5,6;n5,5,6;n7,5,5;", 6);
        Due.due("nobody", x.speak(), Due.STATE);
        int[] asked = {Due.NONE, Due.NONE, 6, 6, Due.NONE, 7};
        int[] worse = {0, 0, 1, 2, 2, 2};
        for (int g = 0; g < 6; g++) {
            Due.due("nothing so far", x.guest(g, 4), Due.NONE);
            x.invite(g);
            Due.due("nothing yet", x.guest(g, 4), Due.NONE);
            Due.due("speak " + g, x.speak(), asked[g]);
            Due.due("asked " + g, x.guest(g, 4), asked[g]);
            Due.due("been " + g, x.guest(g, 3), 2);
            Due.due("worse " + g, x.count(5), worse[g]);
            Due.due("healed " + g, x.count(4), g == 5 ? 1 : 0);
            Due.due("nobody is here", x.count(3), -1);
            Due.due("has left", x.speak(), Due.STATE);
        }
    }

    private static void tales() {
        AilingKing x = Due.castle("k7,6,5;n7,5,4;n6,5,20;n7,0,0;n1,1,1;", 4);
        int[] bad = {0, 21, -21, MIN, MAX};
        for (int by : bad) {
            Due.due("tale by " + by, x.tale(0, by), Due.BAD);
        }
        Due.due("tale of none", x.tale(-1, 1), Due.BAD);
        Due.due("tale of none", x.tale(4, 1), Due.BAD);
        Due.due("more", x.tale(0, 3), 7);
        Due.due("less", x.tale(0, -2), 5);
        Due.due("20 at most", x.tale(0, 16), 20);
        Due.due("20 stays", x.tale(1, 1), 20);
        Due.due("0 at least", x.tale(1, -20), 0);
        Due.due("0 stays", x.tale(1, -1), 0);
        Due.due("by 20", x.tale(1, 20), 20);
        Due.due("all are acts", x.count(7), 7);
        x.invite(0);
        Due.due("is here", x.tale(0, 1), Due.STATE);
        Due.due("BAD ahead of STATE", x.tale(0, 0), Due.BAD);
        Due.due("another's", x.tale(3, 1), 2);
        Due.due("dares now", x.speak(), 7);
        Due.due("has been", x.tale(0, 1), Due.STATE);
        Due.due("the king is healed, tales go on", x.tale(3, 1), 3);
        Due.due("fear stays", x.guest(3, 1), 1);
    }

    private static void undoing() {
        AilingKing x = Due.castle("k7,6,5;s0,7;s1,6;n0,3,1;n1,3,3;", 2);
        Due.due("none", x.undo(), Due.STATE);
        x.tale(0, 19);
        x.invite(0);
        x.show(1);
        x.show(0);
        x.speak();
        Due.due("healed", x.count(4), 1);
        Due.due("undo SPEAKS", x.undo(), 4);
        Due.due("sick", x.count(4), 0);
        Due.due("here", x.count(3), 0);
        Due.due("is here", x.guest(0, 3), 1);
        Due.due("nothing so far", x.guest(0, 4), Due.NONE);
        Due.due("two tonight", x.count(6), 2);
        Due.due("undo SHOWN", x.undo(), 3);
        Due.due("mind", x.guest(0, 0), 0);
        Due.due("not shown", x.hint(0, 2), 0);
        Due.due("one tonight", x.count(6), 1);
        Due.due("undo SHOWN that led nowhere", x.undo(), 2);
        Due.due("not shown", x.hint(1, 2) + x.hint(1, 3), 0);
        Due.due("undo INVITED", x.undo(), 1);
        Due.due("nobody", x.count(3), -1);
        Due.due("to come", x.guest(0, 3), 0);
        Due.due("undo a TALE", x.undo(), 0);
        Due.due("bold", x.guest(0, 2), 1);
        Due.due("no more", x.undo(), Due.STATE);
        x.invite(1);
        x.show(1);
        x.speak();
        Due.due("worse", x.count(5), 1);
        x.undo();
        Due.due("not worse", x.count(5), 0);
        Due.due("asks again", x.speak(), 6);
    }

    private static void undoingAcrossEvenings() {
        AilingKing x = Due.castle("k7,6,2;s0,1;s1,2;n0,0,0;n0,0,0;", 2);
        x.invite(0);
        x.show(0);
        x.show(1);
        x.speak();
        x.invite(1);
        x.show(1);
        x.undo();
        x.undo();
        x.undo();
        Due.due("who is here", x.count(3), 0);
        Due.due("that evening's hints", x.count(6), 2);
        Due.due("that evening's limit", x.show(0), Due.STATE);
        x.undo();
        Due.due("mind", x.guest(0, 0), 1);
        Due.due("shown again", x.show(1), 2);
        x.speak();
        x.tale(1, 20);
        x.tale(1, 5);
        Due.due("a tale by which nothing is another", x.undo(), 5);
        Due.due("bold stays", x.guest(1, 2), 20);
        x.undo();
        Due.due("bold", x.guest(1, 2), 0);
    }

    private static void only24AreKept() {
        AilingKing x = Due.castle("k7,6,2;n0,0,0;", 1);
        for (int by = 1; by <= 30; by++) {
            x.tale(0, by % 2 == 0 ? -1 : 2);
            Due.due("acts", x.count(7), Math.min(by, 24));
        }
        Due.due("15 tales by 1 each", x.guest(0, 2), 15);
        for (int left = 23; left >= 0; left--) {
            Due.due("left", x.undo(), left);
        }
        Due.due("the first six stay", x.guest(0, 2), 3);
        Due.due("forgotten", x.undo(), Due.STATE);
        for (int by = 1; by <= 20; by++) {
            x.tale(0, 1);
        }
        x.undo();
        Due.due("19 kept", x.count(7), 19);
    }

    private static void whatIsTold() {
        AilingKing x = Due.castle("k7,6,2;s3,4;n2,18,19;", 1);
        int[] guest = {2, 18, 19, 0, Due.NONE, Due.BAD};
        int[] hint = {3, 4, 0, 0, Due.BAD};
        for (int what = 0; what < guest.length; what++) {
            Due.due("guest", x.guest(0, what), guest[what]);
        }
        for (int what = 0; what < hint.length; what++) {
            Due.due("hint", x.hint(0, what), hint[what]);
        }
        int[] no = {-1, 1, MIN, MAX};
        for (int none : no) {
            Due.due("no guest", x.guest(none, 0), Due.BAD);
            Due.due("no hint", x.hint(none, 0), Due.BAD);
        }
        Due.due("no such of a guest", x.guest(0, -1), Due.BAD);
        Due.due("no such of a hint", x.hint(0, -1), Due.BAD);
        Due.due("no such count", x.count(-1), Due.BAD);
        Due.due("no such count", x.count(MAX), Due.BAD);
    }
}
