/** Promises 13, 25, 26, and ACTS, IMAGES of Terms: each sentence that names a boundary, inside, at, and beyond it. */
public final class UndoEdgesTest {
    private static final int MIN = Due.MIN, MAX = Due.MAX;

    public static void main(String[] args) {
        noneToUndo();
        eachKindOfAct();
        spokenUndone();
        latestFirst();
        nothingBecomesAnother();
        refusedIsNoAct();
        from23To25();
        theOldestIsForgotten();
        forgottenAcrossEvenings();
        ringAfterUndo();
        noActAfterRestore();
        imageRefusals();
        restoreRefusals();
        imagesAreKeptApart();
        imageOfAnEvening();
        imageOfAllThereCanBe();
        call512();
        Due.finish();
    }

    private static void noneToUndo() {
        Due.sentence("The latest ACT is undone: how many can be undone yet. STATE: none");
        AilingKing x = new AilingKing();
        Due.due("no castle", x.undo(), Due.STATE);
        x = Due.castle("k3,4,1;s5,6;n5,0,0;", 1);
        Due.due("no ACT", x.undo(), Due.STATE);
        x.tale(0, 1);
        Due.due("one", x.undo(), 0);
        Due.due("none", x.undo(), Due.STATE);
        x.tale(0, 1);
        x.tale(0, 1);
        Due.due("two", x.undo(), 1);
        Due.due("one", x.undo(), 0);
        Due.due("none", x.undo(), Due.STATE);
        Due.due("BOLD", x.guest(0, 2), 0);
    }

    private static void eachKindOfAct() {
        Due.sentence("ACTS: INVITED, SHOWN, SPEAKS, a TALE");
        AilingKing x = Due.castle("k3,4,1;s5,3;n5,1,0;", 1);
        int[] acts = {x.tale(0, 1), x.count(7), x.invite(0), x.count(7), x.show(0), x.count(7), x.speak(), x.count(7)};
        int[] due = {1, 1, 5, 2, 3, 3, 3, 4};
        for (int i = 0; i < due.length; i++) {
            Due.due("answer " + i, acts[i], due[i]);
        }
        int[] undone = {x.undo(), x.count(4), x.count(3), x.guest(0, 3), x.guest(0, 4), x.hint(0, 3), x.count(6),
            x.undo(), x.guest(0, 0), x.hint(0, 2), x.hint(0, 3), x.count(6), x.count(3),
            x.undo(), x.count(3), x.guest(0, 3), x.guest(0, 2), x.undo(), x.guest(0, 2), x.undo()};
        int[] then = {3, 0, 0, 1, Due.NONE, 1, 1, 2, 5, 0, 0, 0, 0, 1, -1, 0, 1, 0, 0, Due.STATE};
        for (int i = 0; i < then.length; i++) {
            Due.due("answer then " + i, undone[i], then[i]);
        }
    }

    private static void spokenUndone() {
        Due.sentence("each can be undone: SPEAKS");
        AilingKing x = Due.castle("k3,4,1;n4,0,0;n4,1,0;n5,0,0;n4,0,0;n3,1,0;n3,0,0;", 6);
        int[] asked = {4, Due.NONE, Due.NONE, 4, Due.NONE, 3};
        int[] worse = {0, 1, 1, 1, 2, 2, 2};
        for (int turn = 0; turn < 2; turn++) {
            for (int g = 0; g < 6; g++) {
                x.invite(g);
                for (int again = 0; again < 2; again++) {
                    Due.due("SPEAKS " + g, x.speak(), asked[g]);
                    Due.due("WORSE then", x.count(5), worse[g + 1]);
                    Due.due("healed then", x.count(4), g == 5 ? 1 : 0);
                    Due.due("undone", x.undo(), 2 * g + 1);
                    Due.due("WORSE ahead", x.count(5), worse[g]);
                    Due.due("sick ahead", x.count(4), 0);
                    Due.due("HERE", x.count(3), g);
                    Due.due("nothing so far", x.guest(g, 4), Due.NONE);
                }
                x.speak();
            }
            for (int left = 11; left >= 0; left--) {
                Due.due("undone", x.undo(), left);
                Due.due("WORSE", x.count(5), worse[left / 2]);
            }
        }
    }

    private static void latestFirst() {
        Due.sentence("each can be undone, the latest first");
        AilingKing x = Due.castle("k3,4,5;s0,1;s1,2;s2,5;s5,6;n0,0,0;n0,9,4;", 2);
        x.invite(0);
        int[] minds = {0, 1, 2, 5, 6};
        int[] bolds = {4, 6, 5, 10, 3};
        int[] by = {2, -1, 5, -7};
        for (int h = 0; h < 4; h++) {
            Due.due("show", x.show(h), minds[h + 1]);
            Due.due("tale", x.tale(1, by[h]), bolds[h + 1]);
        }
        for (int h = 3; h >= 0; h--) {
            Due.due("BOLD", x.guest(1, 2), bolds[h + 1]);
            x.undo();
            Due.due("BOLD ahead", x.guest(1, 2), bolds[h]);
            Due.due("MIND yet", x.guest(0, 0), minds[h + 1]);
            Due.due("SHOWN yet", x.hint(h, 2) + x.hint(h, 3), 2);
            x.undo();
            Due.due("MIND ahead", x.guest(0, 0), minds[h]);
            Due.due("not SHOWN", x.hint(h, 2) + x.hint(h, 3), 0);
        }
        Due.due("INVITED", x.undo(), 0);
    }

    private static void nothingBecomesAnother() {
        Due.sentence("also such by which nothing becomes another");
        AilingKing x = Due.castle("k3,4,2;s0,1;s7,6;n5,9,20;n5,0,0;n2,0,0;", 3);
        x.tale(0, 1);
        x.tale(1, -20);
        Due.due("TALES", x.count(7), 2);
        x.invite(2);
        x.show(0);
        x.show(1);
        Due.due("SHOWN that lead nowhere", x.count(7), 5);
        Due.due("nothing asked", x.speak(), Due.NONE);
        Due.due("SPEAKS", x.count(7), 6);
        for (int left = 5; left >= 0; left--) {
            Due.due("undone", x.undo(), left);
        }
        Due.due("BOLD 20", x.guest(0, 2), 20);
        Due.due("BOLD 0", x.guest(1, 2), 0);
        Due.due("to come", x.guest(2, 3), 0);
        Due.due("not SHOWN", x.hint(0, 2) + x.hint(1, 2), 0);
    }

    private static void refusedIsNoAct() {
        Due.sentence("What is refused changes nothing");
        AilingKing x = Due.castle("k3,4,1;s0,1;s1,2;n0,9,20;n5,0,0;", 2);
        int[] refused = {x.invite(2), x.show(2), x.show(0), x.speak(), x.tale(2, 1), x.tale(0, 0), x.undo()};
        int[] due = {Due.BAD, Due.BAD, Due.STATE, Due.STATE, Due.BAD, Due.BAD, Due.STATE};
        for (int i = 0; i < due.length; i++) {
            Due.due("refused " + i, refused[i], due[i]);
        }
        Due.due("no ACT", x.count(7), 0);
        x.invite(0);
        x.show(0);
        Due.due("FULL", x.show(1), Due.FULL);
        Due.due("STATE", x.show(0), Due.STATE);
        Due.due("STATE", x.invite(1), Due.STATE);
        Due.due("STATE", x.tale(0, 1), Due.STATE);
        Due.due("two ACTS", x.count(7), 2);
        x.undo();
        Due.due("the SHOWN one was undone", x.guest(0, 0), 0);
    }

    private static void from23To25() {
        Due.sentence("24 at most are kept, of more the oldest is forgotten");
        for (int acts = 23; acts <= 26; acts++) {
            AilingKing x = Due.castle("k3,4,1;n0,9,0;n0,9,0;", 2);
            for (int act = 1; act <= acts; act++) {
                x.tale(act == 1 || act == 2 ? 0 : 1, act < 20 ? 1 : -1);
                Due.due("kept", x.count(7), Math.min(act, 24));
            }
            for (int left = Math.min(acts, 24) - 1; left >= 0; left--) {
                Due.due("undone of " + acts, x.undo(), left);
            }
            Due.due("no more of " + acts, x.undo(), Due.STATE);
            Due.due("BOLD of the first after " + acts, x.guest(0, 2), Math.min(2, Math.max(0, acts - 24)));
            Due.due("BOLD of the other after " + acts, x.guest(1, 2), 0);
        }
    }

    private static void theOldestIsForgotten() {
        Due.sentence("of more the oldest is forgotten");
        AilingKing x = Due.castle("k3,4,1;n0,9,0;", 1);
        for (int act = 0; act < 60; act++) {
            x.tale(0, act % 2 == 0 ? 3 : -2);
            Due.due("kept", x.count(7), Math.min(act + 1, 24));
            if (act == 35) {
                Due.due("BOLD", x.guest(0, 2), 18);
            }
        }
        int bold = x.guest(0, 2);
        for (int left = 23; left >= 0; left--) {
            Due.due("undone", x.undo(), left);
        }
        Due.due("no more", x.undo(), Due.STATE);
        Due.due("BOLD at the end", bold, 18);
        Due.due("BOLD as ahead of the last 24", x.guest(0, 2), 18);
    }

    private static void forgottenAcrossEvenings() {
        Due.sentence("ACTS (24 at most are kept): INVITED is forgotten, what follows is undone");
        AilingKing x = Due.castle("k3,4,2;d0,1;n0,0,0;n5,9,0;n5,9,0;", 3);
        x.invite(0);
        x.show(0);
        for (int act = 0; act < 22; act++) {
            x.tale(1, act % 2 == 0 ? 1 : -1);
        }
        Due.due("24 are kept", x.count(7), 24);
        x.speak();
        Due.due("24 are kept", x.count(7), 24);
        for (int left = 23; left >= 0; left--) {
            Due.due("undone", x.undo(), left);
        }
        Due.due("INVITED cannot be undone", x.undo(), Due.STATE);
        Due.due("it is HERE yet", x.count(3), 0);
        Due.due("not SHOWN", x.count(6), 0);
        Due.due("MIND as told", x.guest(0, 0), 0);
        Due.due("it can be SHOWN", x.show(0), 1);
        Due.due("SPEAKS", x.speak(), Due.NONE);
        Due.due("undone", x.undo(), 1);
        Due.due("is HERE", x.guest(0, 3), 1);
    }

    private static void ringAfterUndo() {
        Due.sentence("24 at most are kept, each can be undone");
        AilingKing x = Due.castle("k3,4,1;n0,9,0;n0,9,0;", 2);
        for (int act = 0; act < 30; act++) {
            x.tale(0, act < 20 ? 1 : -1);
        }
        for (int left = 23; left >= 12; left--) {
            Due.due("undone", x.undo(), left);
        }
        Due.due("BOLD of 18 TALES", x.guest(0, 2), 18);
        for (int act = 0; act < 12; act++) {
            x.tale(1, 1);
            Due.due("kept", x.count(7), 13 + act);
        }
        x.tale(1, 1);
        Due.due("24 yet", x.count(7), 24);
        for (int left = 23; left >= 0; left--) {
            Due.due("undone", x.undo(), left);
        }
        Due.due("BOLD of 7 TALES", x.guest(0, 2), 7);
        Due.due("BOLD of none", x.guest(1, 2), 0);
        Due.due("no more", x.undo(), Due.STATE);
    }

    private static void noActAfterRestore() {
        Due.sentence("The CASTLE is as an IMAGE kept it (no ACT can be undone then)");
        AilingKing x = Due.castle("k3,4,1;n0,9,0;", 1);
        x.tale(0, 1);
        Due.due("image", x.image(0), 1);
        Due.due("an image is no ACT", x.count(7), 1);
        x.tale(0, 1);
        Due.due("restore", x.restore(0), 1);
        Due.due("no ACT", x.count(7), 0);
        Due.due("no ACT", x.undo(), Due.STATE);
        Due.due("BOLD", x.guest(0, 2), 1);
        x.tale(0, 1);
        Due.due("one since", x.undo(), 0);
        Due.due("BOLD", x.guest(0, 2), 1);
    }

    private static void imageRefusals() {
        Due.sentence("An IMAGE (0, 1) is kept of the CASTLE: 1. BAD; STATE: no CASTLE");
        AilingKing x = new AilingKing();
        int[] none = {-1, 2, MIN, MAX};
        for (int k : none) {
            Due.due("BAD ahead of STATE " + k, x.image(k), Due.BAD);
        }
        Due.due("no CASTLE", x.image(0), Due.STATE);
        Due.due("no CASTLE", x.image(1), Due.STATE);
        Due.feed(x, "k3,4,1;");
        x.castle();
        Due.due("none was kept", x.restore(0), Due.STATE);
        Due.due("none was kept", x.restore(1), Due.STATE);
        for (int k : none) {
            Due.due("image " + k, x.image(k), Due.BAD);
        }
        Due.due("image 0", x.image(0), 1);
        Due.due("image 1", x.image(1), 1);
        Due.due("image 1 anew", x.image(1), 1);
    }

    private static void restoreRefusals() {
        Due.sentence("restore: BAD; STATE: none was kept");
        AilingKing x = new AilingKing();
        int[] none = {-1, 2, MIN, MAX};
        for (int k : none) {
            Due.due("BAD ahead of STATE " + k, x.restore(k), Due.BAD);
        }
        Due.due("no CASTLE", x.restore(0), Due.STATE);
        Due.due("no CASTLE", x.restore(1), Due.STATE);
        Due.feed(x, "k3,4,1;n5,5,5;");
        x.castle();
        x.image(1);
        x.tale(0, 1);
        Due.due("0 was not kept", x.restore(0), Due.STATE);
        Due.due("the ACT stays", x.count(7), 1);
        Due.due("BOLD stays", x.guest(0, 2), 6);
        Due.due("1 was kept", x.restore(1), 1);
        Due.due("BOLD", x.guest(0, 2), 5);
        for (int k : none) {
            Due.due("restore " + k, x.restore(k), Due.BAD);
        }
    }

    private static void imagesAreKeptApart() {
        Due.sentence("IMAGES stay");
        AilingKing x = Due.castle("k3,4,1;n5,5,5;", 1);
        x.image(0);
        x.tale(0, 1);
        x.image(1);
        x.tale(0, 1);
        Due.feed(x, "k0,1,1;");
        Due.due("another castle", x.castle(), 0);
        for (int turn = 0; turn < 2; turn++) {
            Due.due("image 0", x.restore(0), 1);
            Due.due("its BOLD", x.guest(0, 2), 5);
            x.tale(0, 9);
            Due.due("image 1", x.restore(1), 1);
            Due.due("its BOLD", x.guest(0, 2), 6);
            x.tale(0, 9);
        }
        Due.due("anew", x.image(0), 1);
        x.tale(0, -3);
        Due.due("image 0", x.restore(0), 1);
        Due.due("its BOLD", x.guest(0, 2), 15);
        Due.due("image 1", x.restore(1), 1);
        Due.due("its BOLD", x.guest(0, 2), 6);
    }

    private static void imageOfAnEvening() {
        Due.sentence("The CASTLE is as an IMAGE kept it");
        AilingKing x = Due.castle("k3,4,2;w0,5;s5,3;g4,7;n0,0,0;n4,2,2;n0,0,0;", 3);
        x.invite(1);
        x.speak();
        x.invite(0);
        x.show(0);
        x.image(0);
        x.show(1);
        x.speak();
        x.image(1);
        Due.due("healed", x.count(4), 1);
        x.restore(0);
        int[] evening = {x.count(1), x.count(2), x.count(3), x.count(4), x.count(5), x.count(6), x.count(7),
            x.guest(0, 0), x.guest(0, 3), x.guest(0, 4), x.guest(1, 3), x.guest(1, 4), x.guest(2, 3), x.hint(0, 2),
            x.hint(0, 3), x.hint(1, 2), x.hint(1, 3), x.show(0), x.show(1), x.show(2), x.invite(2), x.speak()};
        int[] due = {3, 3, 0, 0, 1, 1, 0, 5, 1, Due.NONE, 2, 4, 0, 1, 1, 0, 0, Due.STATE, 3, Due.FULL, Due.STATE, 3};
        for (int i = 0; i < due.length; i++) {
            Due.due("answer " + i, evening[i], due[i]);
        }
        x.restore(1);
        Due.due("healed", x.count(4), 1);
        Due.due("nobody", x.count(3), -1);
        Due.due("asked", x.guest(0, 4), 3);
        Due.due("nobody is invited", x.invite(2), Due.STATE);
    }

    private static void imageOfAllThereCanBe() {
        Due.sentence("The CASTLE is as an IMAGE kept it: 8 HINTS, 6 GUESTS");
        String hints = "s0,1;s0,1;s0,1;s0,1;s0,1;s0,1;s0,1;g6,4;";
        AilingKing x = Due.castle("k3,4,5;" + hints + "n0,0,0;n0,0,0;n0,0,0;n0,0,0;n0,0,0;n6,3,2;", 6);
        x.tale(5, 9);
        x.invite(5);
        x.show(7);
        x.speak();
        x.image(0);
        Due.feed(x, "k0,1,1;m1,2;n1,1,1;");
        Due.due("another castle", x.castle(), 1);
        x.restore(0);
        int[] answers = {x.count(1), x.count(2), x.kind(7), x.hint(7, 0), x.hint(7, 1), x.hint(7, 2), x.hint(6, 2),
            x.guest(5, 0), x.guest(5, 1), x.guest(5, 2), x.guest(5, 3), x.guest(5, 4), x.guest(4, 4), x.count(5)};
        int[] due = {8, 6, 2, 6, 4, 1, 0, 4, 3, 11, 2, 4, Due.NONE, 1};
        for (int i = 0; i < due.length; i++) {
            Due.due("answer " + i, answers[i], due[i]);
        }
        Due.feed(x, "k3,4,5;" + hints + "n0,0,0;n0,0,0;n0,0,0;n0,0,0;n0,0,0;n6,3,2;");
        Due.due("read anew", x.castle(), 6);
        Due.due("not SHOWN", x.hint(7, 2), 0);
        Due.due("nothing so far", x.guest(5, 4), Due.NONE);
    }

    private static void call512() {
        Due.sentence("An object is used for at most 512 calls");
        AilingKing x = new AilingKing();
        String text = "k7,6,5;n0,0,0;";
        for (int i = 0; i < text.length(); i++) {
            x.feed(text.charAt(i));
        }
        x.castle();
        int bold = 0;
        for (int call = text.length() + 2; call <= 512; call++) {
            boolean isMore = call / 20 % 2 == 0;
            bold = isMore ? Math.min(20, bold + 3) : Math.max(0, bold - 2);
            Due.due("call " + call, x.tale(0, isMore ? 3 : -2), bold);
        }
    }
}
