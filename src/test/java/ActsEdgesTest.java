/** Promises 9 to 16 and 31, and section 2 of Terms: each sentence that names a boundary, inside, at, and beyond it. */
public final class ActsEdgesTest {
    private static final int MIN = Due.MIN, MAX = Due.MAX;

    public static void main(String[] args) {
        silentOnes();
        sungOnes();
        sungFromZero();
        wornOnes();
        wornWithinAnEvening();
        mistakenOnes();
        doubleOnes();
        leadsRefusals();
        mindStays();
        inviteRefusals();
        nobodyIsHere();
        kingIsHealed();
        eachOnceAnEvening();
        limitAtMost();
        showRefusals();
        nothingWasShownThisEvening();
        boldIsFearOrMore();
        asksWhatItThinksOf();
        worseOnceMore();
        leavesHasBeen();
        speakRefusals();
        talesByHowMuch();
        boldFrom0To20();
        taleRefusals();
        guestRefusals();
        hintRefusals();
        shownThisEvening();
        countRefusals();
        Due.finish();
    }

    private static void leadsAs(AilingKing x, int hint, int... to) {
        for (int thought = 0; thought < 8; thought++) {
            Due.due("leads " + hint + " from " + thought, x.leads(hint, thought), to[thought]);
        }
    }

    private static void silentOnes() {
        Due.sentence("a silent one from FROM to TO");
        AilingKing x = Due.castle("k0,1,1;s0,7;s7,0;s3,4;", 0);
        leadsAs(x, 0, 7, 1, 2, 3, 4, 5, 6, 7);
        leadsAs(x, 1, 0, 1, 2, 3, 4, 5, 6, 0);
        leadsAs(x, 2, 0, 1, 2, 4, 4, 5, 6, 7);
    }

    private static void sungOnes() {
        Due.sentence("a sung one from FROM, or the THOUGHT one less than FROM, to TO");
        AilingKing x = Due.castle("k0,1,1;g7,0;g1,5;g4,3;g4,5;", 0);
        leadsAs(x, 0, 0, 1, 2, 3, 4, 5, 0, 0);
        leadsAs(x, 1, 5, 5, 2, 3, 4, 5, 6, 7);
        leadsAs(x, 2, 0, 1, 2, 3, 3, 5, 6, 7);
        leadsAs(x, 3, 0, 1, 2, 5, 5, 5, 6, 7);
    }

    private static void sungFromZero() {
        Due.sentence("the THOUGHT one less than FROM: there is none below 0");
        AilingKing x = Due.castle("k2,1,1;g0,5;n7,0,0;n0,0,0;", 2);
        leadsAs(x, 0, 5, 1, 2, 3, 4, 5, 6, 7);
        Due.due("7 does not come to 5", x.thinkable(0), 1 << 7);
        Due.due("0 does", x.thinkable(1), 1 | 1 << 5);
    }

    private static void wornOnes() {
        Due.sentence("a worn one as a silent one, but only if it was SHOWN less than twice ahead of that");
        AilingKing x = Due.castle("k7,6,1;w2,5;n2,0,0;n1,0,0;n2,0,0;n2,0,0;n2,0,0;", 5);
        int[] then = {5, 1, 2, 2, 2};
        for (int g = 0; g < 5; g++) {
            Due.due("SHOWN ahead", x.hint(0, 2), g);
            leadsAs(x, 0, 0, 1, g < 2 ? 5 : 2, 3, 4, 5, 6, 7);
            x.invite(g);
            Due.due("show", x.show(0), then[g]);
            x.speak();
        }
        for (int left = 4; left >= 0; left--) {
            x.undo();
            x.undo();
            Due.due("SHOWN ahead", x.hint(0, 2), left);
            leadsAs(x, 0, 0, 1, left < 2 ? 5 : 2, 3, 4, 5, 6, 7);
            x.undo();
        }
    }

    private static void wornWithinAnEvening() {
        Due.sentence("less than twice ahead of that: by the second SHOWING it leads yet");
        AilingKing x = Due.castle("k7,6,1;w2,7;n2,0,9;n2,0,9;n2,0,9;", 3);
        x.tale(0, -9);
        x.invite(1);
        Due.due("the first time", x.show(0), 7);
        x.undo();
        x.undo();
        x.invite(0);
        Due.due("the first time again", x.show(0), 7);
        x.undo();
        Due.due("not SHOWN", x.hint(0, 2), 0);
        x.show(0);
        Due.due("asks", x.speak(), 7);
    }

    private static void mistakenOnes() {
        Due.sentence("a mistaken one from TO to FROM");
        AilingKing x = Due.castle("k0,1,1;m0,7;m7,0;m3,4;", 0);
        leadsAs(x, 0, 0, 1, 2, 3, 4, 5, 6, 0);
        leadsAs(x, 1, 7, 1, 2, 3, 4, 5, 6, 7);
        leadsAs(x, 2, 0, 1, 2, 3, 3, 5, 6, 7);
    }

    private static void doubleOnes() {
        Due.sentence("a double one from TO to FROM, and from FROM to TO");
        AilingKing x = Due.castle("k0,1,1;d0,7;d7,0;d3,4;", 0);
        leadsAs(x, 0, 7, 1, 2, 3, 4, 5, 6, 0);
        leadsAs(x, 1, 7, 1, 2, 3, 4, 5, 6, 0);
        leadsAs(x, 2, 0, 1, 2, 4, 3, 5, 6, 7);
    }

    private static void leadsRefusals() {
        Due.sentence("To which THOUGHT a HINT LEADS from one now. BAD");
        AilingKing x = Due.castle("k0,1,1;s0,7;s7,0;", 0);
        int[] none = {-1, 2, 8, MIN, MAX};
        for (int hint : none) {
            Due.due("hint " + hint, x.leads(hint, 0), Due.BAD);
        }
        int[] noThought = {-1, 8, 9, MIN, MAX};
        for (int thought : noThought) {
            Due.due("thought " + thought, x.leads(0, thought), Due.BAD);
        }
        Due.due("the first", x.leads(0, 0), 7);
        Due.due("the last", x.leads(1, 7), 0);
        x = Due.castle("k0,1,1;", 0);
        Due.due("there are no hints", x.leads(0, 0), Due.BAD);
    }

    private static void mindStays() {
        Due.sentence("Else MIND stays");
        AilingKing x = Due.castle("k0,1,5;s2,3;g5,6;w2,3;m2,3;d2,1;n3,0,0;n2,0,0;", 2);
        x.invite(0);
        int[] due = {3, 3, 3, 2, 1};
        for (int h = 0; h < 5; h++) {
            Due.due("show " + h, x.show(h), due[h]);
            Due.due("MIND", x.guest(0, 0), due[h]);
            Due.due("another's MIND", x.guest(1, 0), 2);
            Due.due("SHOWN all the same", x.hint(h, 2), 1);
        }
    }

    private static void inviteRefusals() {
        Due.sentence("A GUEST is INVITED: MIND. BAD");
        AilingKing x = Due.castle("k0,1,1;n2,0,0;n3,0,0;", 2);
        int[] none = {-1, 2, 6, MIN, MAX};
        for (int guest : none) {
            Due.due("guest " + guest, x.invite(guest), Due.BAD);
        }
        Due.due("no ACT", x.count(7), 0);
        Due.due("the last", x.invite(1), 3);
        for (int guest : none) {
            Due.due("BAD ahead of STATE " + guest, x.invite(guest), Due.BAD);
        }
        x.speak();
        Due.due("the first", x.invite(0), 2);
        AilingKing six = Due.castle("k0,1,1;n2,0,0;n3,0,0;n4,0,0;n5,0,0;n6,0,0;n7,0,0;", 6);
        Due.due("guest 6", six.invite(6), Due.BAD);
        Due.due("guest 5", six.invite(5), 7);
    }

    private static void nobodyIsHere() {
        Due.sentence("STATE: somebody is HERE, it has BEEN");
        AilingKing x = Due.castle("k0,1,1;n2,0,0;n3,0,0;", 2);
        x.invite(0);
        Due.due("itself", x.invite(0), Due.STATE);
        Due.due("another", x.invite(1), Due.STATE);
        Due.due("one ACT", x.count(7), 1);
        Due.due("who is HERE", x.count(3), 0);
        x.speak();
        Due.due("it has BEEN", x.invite(0), Due.STATE);
        Due.due("nobody is HERE", x.count(3), -1);
        Due.due("another now", x.invite(1), 3);
        Due.due("it has BEEN, somebody is HERE", x.invite(0), Due.STATE);
        x.undo();
        x.undo();
        x.undo();
        Due.due("not HERE any more", x.guest(0, 3), 0);
        Due.due("again", x.invite(0), 2);
    }

    private static void kingIsHealed() {
        Due.sentence("STATE: the king is healed");
        AilingKing x = Due.castle("k0,1,1;s0,1;n0,0,0;n1,0,0;n3,0,5;", 3);
        x.invite(1);
        x.speak();
        Due.due("WORSE is not healed", x.invite(2), 3);
        x.speak();
        x.invite(0);
        Due.due("QUESTION", x.speak(), 0);
        Due.due("healed", x.count(4), 1);
        Due.due("it has BEEN", x.invite(0), Due.STATE);
        x = Due.castle("k0,1,1;s0,1;n0,0,0;n1,0,0;n3,0,5;", 3);
        x.invite(0);
        x.speak();
        Due.due("healed", x.invite(1), Due.STATE);
        Due.due("healed", x.invite(2), Due.STATE);
        Due.due("BAD ahead of STATE", x.invite(3), Due.BAD);
        Due.due("nobody to show to", x.show(0), Due.STATE);
        Due.due("nobody to SPEAK", x.speak(), Due.STATE);
        Due.due("a TALE all the same", x.tale(2, 1), 6);
        Due.due("undone", x.undo(), 2);
        Due.due("undone", x.undo(), 1);
        Due.due("sick", x.count(4), 0);
        Due.due("undone", x.undo(), 0);
        Due.due("invited now", x.invite(1), 1);
    }

    private static void eachOnceAnEvening() {
        Due.sentence("HINTS are SHOWN to who is HERE, each once an evening");
        AilingKing x = Due.castle("k0,1,5;d2,3;d3,2;n2,0,0;n2,0,0;", 2);
        for (int g = 0; g < 2; g++) {
            x.invite(g);
            Due.due("once", x.show(0), 3);
            Due.due("twice", x.show(0), Due.STATE);
            Due.due("MIND", x.guest(g, 0), 3);
            Due.due("another", x.show(1), 2);
            Due.due("twice", x.show(0), Due.STATE);
            Due.due("twice", x.show(1), Due.STATE);
            Due.due("two this evening", x.count(6), 2);
            Due.due("SHOWN", x.hint(0, 2), g + 1);
            x.speak();
        }
        x.undo();
        x.undo();
        Due.due("again, as that was undone", x.show(1), 2);
        Due.due("twice", x.show(1), Due.STATE);
    }

    private static void limitAtMost() {
        Due.sentence("LIMIT at most; FULL: LIMIT were");
        for (int limit = 1; limit <= 5; limit++) {
            AilingKing x = Due.castle("k0,1," + limit + ";s6,5;s6,5;s6,5;s6,5;s6,5;s6,5;s6,5;s6,5;n2,0,0;n2,0,0;", 2);
            for (int g = 0; g < 2; g++) {
                x.invite(g);
                for (int h = 7; h >= 0; h--) {
                    boolean isRoom = 7 - h < limit;
                    Due.due("show " + h + ", LIMIT " + limit, x.show(h), isRoom ? 2 : Due.FULL);
                    Due.due("this evening", x.count(6), Math.min(limit, 8 - h));
                    Due.due("SHOWN", x.hint(h, 2), isRoom ? g + 1 : 0);
                }
                x.undo();
                Due.due("room for one", x.show(0), 2);
                Due.due("no more", x.show(1), Due.FULL);
                x.undo();
                x.show(8 - limit);
                x.speak();
            }
        }
    }

    private static void showRefusals() {
        Due.sentence("show: BAD; STATE: nobody is HERE, it was SHOWN this evening; FULL");
        AilingKing x = Due.castle("k0,1,1;s2,3;s3,4;n2,0,0;", 1);
        int[] none = {-1, 2, 8, MIN, MAX};
        for (int hint : none) {
            Due.due("BAD ahead of STATE " + hint, x.show(hint), Due.BAD);
        }
        Due.due("nobody is HERE", x.show(0), Due.STATE);
        x.invite(0);
        x.show(0);
        Due.due("STATE ahead of FULL", x.show(0), Due.STATE);
        Due.due("FULL", x.show(1), Due.FULL);
        for (int hint : none) {
            Due.due("BAD ahead of FULL " + hint, x.show(hint), Due.BAD);
        }
        Due.due("two ACTS", x.count(7), 2);
        x.speak();
        Due.due("nobody is HERE", x.show(1), Due.STATE);
    }

    private static void nothingWasShownThisEvening() {
        Due.sentence("it is HERE, nothing was SHOWN this evening");
        AilingKing x = Due.castle("k0,1,2;s6,5;s6,5;n2,0,0;n3,0,0;", 2);
        x.invite(0);
        x.show(0);
        x.show(1);
        x.speak();
        x.invite(1);
        Due.due("none this evening", x.count(6), 0);
        for (int h = 0; h < 2; h++) {
            Due.due("not this evening", x.hint(h, 3), 0);
            Due.due("SHOWN", x.show(h), 3);
            Due.due("how often", x.hint(h, 2), 2);
        }
    }

    private static void boldIsFearOrMore() {
        Due.sentence("if BOLD is FEAR or more");
        int[][] hearts = {{5, 4}, {5, 5}, {5, 6}, {0, 0}, {20, 19}, {20, 20}, {1, 0}, {0, 20}};
        for (int[] heart : hearts) {
            boolean dares = heart[1] >= heart[0];
            AilingKing x = Due.castle("k3,6,1;n3," + heart[0] + "," + heart[1] + ";", 1);
            x.invite(0);
            Due.due("FEAR " + heart[0] + ", BOLD " + heart[1], x.speak(), dares ? 3 : Due.NONE);
            Due.due("healed", x.count(4), dares ? 1 : 0);
            Due.due("asked", x.guest(0, 4), dares ? 3 : Due.NONE);
            Due.due("has BEEN", x.guest(0, 3), 2);
            x = Due.castle("k6,3,1;n3," + heart[0] + "," + heart[1] + ";", 1);
            x.invite(0);
            Due.due("FEAR " + heart[0] + ", BOLD " + heart[1], x.speak(), dares ? 3 : Due.NONE);
            Due.due("WORSE", x.count(5), dares ? 1 : 0);
            Due.due("not healed", x.count(4), 0);
        }
    }

    private static void asksWhatItThinksOf() {
        Due.sentence("it asks what it thinks of, if that is QUESTION or WRONG");
        for (int thought = 0; thought < 8; thought++) {
            boolean asks = thought == 3 || thought == 4;
            AilingKing x = Due.castle("k3,4,1;n" + thought + ",0,0;", 1);
            x.invite(0);
            Due.due("nothing so far", x.guest(0, 4), Due.NONE);
            Due.due("speak", x.speak(), asks ? thought : Due.NONE);
            Due.due("asked", x.guest(0, 4), asks ? thought : Due.NONE);
            Due.due("healed", x.count(4), thought == 3 ? 1 : 0);
            Due.due("WORSE", x.count(5), thought == 4 ? 1 : 0);
            Due.due("MIND", x.guest(0, 0), thought);
        }
        AilingKing x = Due.castle("k3,4,1;s3,5;s5,3;n3,0,0;n5,0,0;", 2);
        x.invite(0);
        x.show(0);
        Due.due("no more of QUESTION", x.speak(), Due.NONE);
        x.invite(1);
        x.show(1);
        Due.due("of QUESTION now", x.speak(), 3);
    }

    private static void worseOnceMore() {
        Due.sentence("WRONG (it is WORSE once more)");
        AilingKing x = Due.castle("k3,4,1;n4,0,0;n4,0,0;n4,0,0;n4,0,0;n4,0,0;n4,0,0;", 6);
        for (int g = 0; g < 6; g++) {
            Due.due("WORSE", x.count(5), g);
            x.invite(g);
            Due.due("WRONG", x.speak(), 4);
        }
        for (int left = 6; left > 0; left--) {
            Due.due("WORSE", x.count(5), left);
            x.undo();
            Due.due("nothing so far", x.guest(left - 1, 4), Due.NONE);
            x.undo();
        }
        Due.due("not WORSE", x.count(5), 0);
    }

    private static void leavesHasBeen() {
        Due.sentence("it leaves, has BEEN");
        AilingKing x = Due.castle("k3,4,1;s5,6;n5,9,0;", 1);
        Due.due("is to come", x.guest(0, 3), 0);
        x.invite(0);
        Due.due("is HERE", x.guest(0, 3), 1);
        Due.due("who", x.count(3), 0);
        x.show(0);
        x.speak();
        Due.due("has BEEN", x.guest(0, 3), 2);
        Due.due("nobody", x.count(3), -1);
        Due.due("none this evening", x.count(6), 0);
        Due.due("MIND stays", x.guest(0, 0), 6);
        Due.due("FEAR stays", x.guest(0, 1), 9);
    }

    private static void speakRefusals() {
        Due.sentence("Who is HERE SPEAKS. STATE: nobody is HERE");
        AilingKing x = Due.castle("k3,4,1;n5,0,0;", 1);
        Due.due("nobody yet", x.speak(), Due.STATE);
        Due.due("no ACT", x.count(7), 0);
        x.invite(0);
        Due.due("speak", x.speak(), Due.NONE);
        Due.due("nobody any more", x.speak(), Due.STATE);
        Due.due("two ACTS", x.count(7), 2);
    }

    private static void talesByHowMuch() {
        Due.sentence("A TALE (by -20 to 20, not 0): BOLD then");
        int[] none = {0, 21, -21, 22, 40, MIN, MAX};
        AilingKing x = Due.castle("k3,4,1;n5,0,10;n5,0,0;n5,0,20;", 3);
        for (int by : none) {
            Due.due("by " + by, x.tale(0, by), Due.BAD);
        }
        Due.due("no ACT", x.count(7), 0);
        Due.due("by 20", x.tale(1, 20), 20);
        Due.due("by -20", x.tale(2, -20), 0);
        Due.due("by 1", x.tale(0, 1), 11);
        Due.due("by -1", x.tale(0, -1), 10);
        Due.due("by 19", x.tale(2, 19), 19);
        Due.due("by -19", x.tale(1, -19), 1);
        Due.due("BOLD", x.guest(0, 2), 10);
    }

    private static void boldFrom0To20() {
        Due.sentence("BOLD is more or less by that, 0 to 20");
        int[][] due = {{19, 1, 20}, {19, 2, 20}, {20, 1, 20}, {20, 20, 20}, {1, -1, 0}, {1, -2, 0}, {0, -1, 0},
            {0, -20, 0}, {0, 20, 20}, {20, -20, 0}, {18, 1, 19}, {2, -1, 1}, {1, 19, 20}, {1, 20, 20}, {19, -19, 0},
            {19, -20, 0}, {20, -19, 1}, {0, 19, 19}, {10, 10, 20}, {10, -10, 0}, {10, 11, 20}, {10, -11, 0}};
        for (int[] one : due) {
            AilingKing x = Due.castle("k3,4,1;n5,6," + one[0] + ";n5,6,7;", 2);
            Due.due("BOLD " + one[0] + " by " + one[1], x.tale(0, one[1]), one[2]);
            Due.due("BOLD", x.guest(0, 2), one[2]);
            Due.due("FEAR stays", x.guest(0, 1), 6);
            Due.due("another's", x.guest(1, 2), 7);
            Due.due("undone", x.undo(), 0);
            Due.due("BOLD again", x.guest(0, 2), one[0]);
        }
    }

    private static void taleRefusals() {
        Due.sentence("tale: BAD; STATE: it has BEEN, is HERE");
        AilingKing x = Due.castle("k3,4,1;n5,0,0;n5,0,0;", 2);
        int[] none = {-1, 2, 6, MIN, MAX};
        for (int guest : none) {
            Due.due("guest " + guest, x.tale(guest, 1), Due.BAD);
        }
        x.invite(0);
        Due.due("is HERE", x.tale(0, 1), Due.STATE);
        Due.due("BAD ahead of STATE", x.tale(0, 0), Due.BAD);
        Due.due("BAD ahead of STATE", x.tale(0, 21), Due.BAD);
        Due.due("another", x.tale(1, 1), 1);
        x.speak();
        Due.due("has BEEN", x.tale(0, 1), Due.STATE);
        Due.due("has BEEN", x.tale(0, -1), Due.STATE);
        Due.due("BAD ahead of STATE", x.tale(0, -21), Due.BAD);
        Due.due("another", x.tale(1, 1), 2);
        Due.due("BOLD stays", x.guest(0, 2), 0);
    }

    private static void guestRefusals() {
        Due.sentence("Of a GUEST: 0 MIND .. 4 what it asked. BAD");
        AilingKing x = Due.castle("k3,4,1;n5,6,7;n1,20,0;", 2);
        int[] none = {-1, 2, 6, MIN, MAX};
        int[] noWhat = {-1, 5, MIN, MAX};
        for (int guest : none) {
            for (int what = 0; what < 5; what++) {
                Due.due("guest " + guest, x.guest(guest, what), Due.BAD);
            }
        }
        int[][] due = {{5, 6, 7, 0, Due.NONE}, {1, 20, 0, 0, Due.NONE}};
        for (int g = 0; g < 2; g++) {
            for (int what : noWhat) {
                Due.due("what " + what, x.guest(g, what), Due.BAD);
            }
            for (int what = 0; what < 5; what++) {
                Due.due("guest " + g + " " + what, x.guest(g, what), due[g][what]);
            }
        }
    }

    private static void hintRefusals() {
        Due.sentence("Of a HINT: 0 FROM .. 3 whether it was SHOWN this evening. BAD");
        AilingKing x = Due.castle("k3,4,1;s5,6;m2,0;", 0);
        int[] none = {-1, 2, 8, MIN, MAX};
        int[] noWhat = {-1, 4, MIN, MAX};
        for (int hint : none) {
            for (int what = 0; what < 4; what++) {
                Due.due("hint " + hint, x.hint(hint, what), Due.BAD);
            }
        }
        int[][] due = {{5, 6, 0, 0}, {2, 0, 0, 0}};
        for (int h = 0; h < 2; h++) {
            for (int what : noWhat) {
                Due.due("what " + what, x.hint(h, what), Due.BAD);
            }
            for (int what = 0; what < 4; what++) {
                Due.due("hint " + h + " " + what, x.hint(h, what), due[h][what]);
            }
        }
    }

    private static void shownThisEvening() {
        Due.sentence("3 whether it was SHOWN this evening (1, 0: also if nobody is HERE)");
        AilingKing x = Due.castle("k3,4,2;s5,6;m2,0;n1,0,0;n1,0,0;", 2);
        Due.due("nobody yet", x.hint(0, 3), 0);
        x.invite(0);
        Due.due("not yet", x.hint(0, 3), 0);
        x.show(0);
        Due.due("now", x.hint(0, 3), 1);
        Due.due("another", x.hint(1, 3), 0);
        Due.due("this evening", x.count(6), 1);
        x.speak();
        Due.due("nobody any more", x.hint(0, 3), 0);
        Due.due("nobody any more", x.count(6), 0);
        x.invite(1);
        Due.due("another evening", x.hint(0, 3), 0);
        x.undo();
        x.undo();
        Due.due("that evening again", x.hint(0, 3), 1);
        Due.due("that evening again", x.count(6), 1);
        x.undo();
        Due.due("not any more", x.hint(0, 3), 0);
    }

    private static void countRefusals() {
        Due.sentence("How many: 0 ROWS .. 8 bytes on the tape. BAD");
        AilingKing x = Due.castle("k3,4,2;s5,6;m2,0;n4,0,0;n1,0,0;n1,0,0;", 3);
        int[] none = {-1, 9, MIN, MAX};
        for (int what : none) {
            Due.due("what " + what, x.count(what), Due.BAD);
        }
        x.row(5, 0, 0);
        x.invite(0);
        x.speak();
        x.invite(2);
        x.show(1);
        x.feed('k');
        x.feed('k');
        x.feed('k');
        int[] due = {1, 2, 3, 2, 0, 1, 1, 4, 3};
        for (int what = 0; what < due.length; what++) {
            Due.due("count " + what, x.count(what), due[what]);
        }
    }
}
