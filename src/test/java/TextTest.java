/** Promises 6 to 8: the tape, castles read from it, faults. */
public final class TextTest {
    private static final String EIGHT = "k0,1,1;s0,1;s0,1;s0,1;s0,1;s0,1;s0,1;s0,1;s0,1;";
    private static final String SIX = "k0,1,1;n0,0,0;n0,0,0;n0,0,0;n0,0,0;n0,0,0;n0,0,0;";

    public static void main(String[] args) {
        tapeHoldsBytes();
        castlesAreRead();
        tokensThatCannotStand();
        numbersNotAsTold();
        moreThanThereIsRoomFor();
        everyTextCutShort();
        everyByteInEveryPlace();
        whatAFaultLeaves();
        onlyTheTapeIsRead();
        whatANewCastleLeaves();
        Due.finish();
    }

    private static void tapeHoldsBytes() {
        AilingKing x = new AilingKing();
        Due.due("-1", x.feed(-1), Due.BAD);
        Due.due("256", x.feed(256), Due.BAD);
        for (int i = 0; i < 120; i++) {
            Due.due("byte", x.feed(i == 0 ? 255 : 0), i + 1);
        }
        Due.due("full", x.feed(0), Due.FULL);
        Due.due("BAD ahead of FULL", x.feed(256), Due.BAD);
        Due.due("still 120", x.count(8), 120);
        Due.due("no token", x.castle(), -1000100);
        Due.due("empty then", x.count(8), 0);
        Due.due("anew", x.feed('k'), 1);
    }

    private static void castlesAreRead() {
        AilingKing x = Due.castle("k00,07,05;d1,02;n3,20,00;", 1);
        Due.due("hints", x.count(1), 1);
        Due.due("guests", x.count(2), 1);
        Due.due("from", x.hint(0, 0), 1);
        Due.due("to", x.hint(0, 1), 2);
        Due.due("kind", x.kind(0), 5);
        Due.due("mind", x.guest(0, 0), 3);
        Due.due("fear", x.guest(0, 1), 20);
        Due.due("bold", x.guest(0, 2), 0);
        Due.castle("k0,1,1;", 0);
        Due.castle("k7,0,5;n7,0,20;", 1);
        AilingKing all = Due.castle(EIGHT + SIX.substring(7), 6);
        Due.due("eight hints", all.count(1), 8);
        AilingKing none = new AilingKing();
        Due.due("no fault yet", none.fault(), 0);
        fault("", 0, 1);
    }

    /** A text, where its fault is, and which. */
    private static void fault(String text, int place, int number) {
        AilingKing x = new AilingKing();
        Due.feed(x, text);
        Due.due("castle of " + text, x.castle(), -1000100 - place);
        Due.due("fault of " + text, x.fault(), number);
        Due.due("tape after " + text, x.count(8), 0);
        Due.due("no castle after " + text, x.cover(0), Due.STATE);
    }

    private static void tokensThatCannotStand() {
        fault(" k0,1,1;", 0, 1);
        fault("K0,1,1;", 0, 1);
        fault("s0,1;", 0, 1);
        fault("k0,1,1; ", 7, 1);
        fault("k0,1,1;;", 7, 1);
        fault("k0,1,1;k", 7, 1);
        fault("k0,1,1;3", 7, 1);
        fault("k,1,1;", 1, 1);
        fault("k0;1,1;", 2, 1);
        fault("k0,1,1,", 6, 1);
        fault("k000,1,1;", 1, 1);
        fault("k999,1,1;", 1, 1);
        fault("k0,1,001;", 5, 1);
        fault("k0 ,1,1;", 2, 1);
        fault("k-1,1,1;", 1, 1);
        fault("k0,1,1;s1,123;", 10, 1);
        fault("k0,1,1;n1,2,3;s1,2;", 14, 1);
        fault("k0,1,1;n1,2;", 11, 1);
        fault("k0,1,1;s1,2,3;", 11, 1);
        fault("k0,1,1;ss", 8, 1);
        fault(EIGHT + "x", 47, 1);
        fault(EIGHT + "k", 47, 1);
        fault(SIX + "s", 49, 1);
        fault(EIGHT + "n1,2,3;s", 54, 1);
    }

    private static void numbersNotAsTold() {
        fault("k8,1,1;", 1, 2);
        fault("k10", 1, 2);
        fault("k0,8,1;", 3, 2);
        fault("k3,3,1;", 3, 2);
        fault("k3,03,1;", 3, 2);
        fault("k0,1,0;", 5, 2);
        fault("k0,1,6;", 5, 2);
        fault("k0,1,10;", 5, 2);
        fault("k0,1,1;s8,1;", 8, 2);
        fault("k0,1,1;s1,8;", 10, 2);
        fault("k0,1,1;g4,4;", 10, 2);
        fault("k0,1,1;w4,4x", 10, 2);
        fault("k0,1,1;n8,1,1;", 8, 2);
        fault("k0,1,1;n1,21,1;", 10, 2);
        fault("k0,1,1;n1,20,21;", 13, 2);
        fault("k0,1,1;n1,99", 10, 2);
    }

    private static void moreThanThereIsRoomFor() {
        for (char letter : "sgwmd".toCharArray()) {
            fault(EIGHT + letter, 47, 3);
            fault(EIGHT + letter + "0,1;", 47, 3);
        }
        fault(SIX + "n", 49, 3);
        fault(SIX + "n9", 49, 3);
    }

    private static void everyTextCutShort() {
        String text = "k0,1,1;s0,1;n2,10,0;";
        for (int length = 0; length < text.length(); length++) {
            if (length != 7 && length != 12) {
                fault(text.substring(0, length), length, 1);
            }
        }
    }

    /** Of a text with one byte in a place of its own; the few that may stand there are passed over. */
    private static void everyByteInEveryPlace() {
        String[] heads = {"", "k", "k0", "k0,", "k0,1", "k0,1,", "k0,1,1", "k0,1,1;", "k0,1,1;s", "k0,1,1;n1",
            "k0,1,1;n1,10"};
        String[] may = {"k", "0-7", ",0-9", "0-7", ",0-9", "0-9", ";0-9", "sgwmdn", "0-9", ",0-9", ",0-9"};
        for (int h = 0; h < heads.length; h++) {
            for (char letter = 0; letter < 256; letter++) {
                boolean isFigure = letter >= '0' && letter <= '9';
                boolean isOther = letter != '-' && may[h].indexOf(letter) >= 0;
                boolean passedOver = isOther || isFigure && may[h].indexOf('-') >= 0;
                if (!passedOver) {
                    fault(heads[h] + letter, heads[h].length(), 1);
                }
            }
        }
    }

    private static void whatAFaultLeaves() {
        AilingKing x = Due.castle("k7,6,2;s0,7;n0,1,3;n1,2,3;", 2);
        x.row(0, 0, 5);
        x.image(1);
        x.invite(0);
        x.show(0);
        x.ask(0, 0);
        Due.feed(x, "k5,4,3;m1,2;n4,5,6;n9");
        Due.due("a fault late in the text", x.castle(), -1000120);
        Due.due("its number", x.fault(), 2);
        Due.due("hints stay", x.count(1), 1);
        Due.due("kind stays", x.kind(0), 1);
        Due.due("guests stay", x.count(2), 2);
        Due.due("fear stays", x.guest(0, 1), 1);
        Due.due("who is here stays", x.count(3), 0);
        Due.due("the evening stays", x.count(6), 1);
        Due.due("acts stay", x.count(7), 2);
        Due.due("trace stays", x.trace(0), 11);
        Due.due("the law stays", x.speak(), 7);
        Due.due("king is healed", x.count(4), 1);
        Due.feed(x, "k0,1,1;");
        Due.due("a castle", x.castle(), 0);
        Due.due("the latest fault is told yet", x.fault(), 2);
    }

    private static void onlyTheTapeIsRead() {
        AilingKing x = new AilingKing();
        Due.feed(x, "k00,01,05;");
        Due.due("a castle", x.castle(), 0);
        Due.feed(x, "k0");
        Due.due("figures of the tape before do not count", x.castle(), -1000102);
        Due.feed(x, "k00,01,05");
        Due.due("nor does its last sign", x.castle(), -1000109);
    }

    private static void whatANewCastleLeaves() {
        AilingKing x = Due.castle("k7,6,3;s0,7;s0,6;n0,0,0;n0,0,0;n0,0,0;", 3);
        x.row(3, 2, 5);
        x.image(0);
        x.invite(0);
        x.show(1);
        x.speak();
        x.invite(1);
        x.show(0);
        x.speak();
        x.undo();
        x.as(0, 5);
        x.ask(1, 1);
        Due.feed(x, "k7,6,3;s0,7;s0,6;n0,0,0;n0,0,0;n0,0,0;");
        Due.due("castle anew", x.castle(), 3);
        int[] counts = {1, 2, 3, -1, 0, 0, 0, 0, 0};
        for (int what = 0; what < counts.length; what++) {
            Due.due("count anew " + what, x.count(what), counts[what]);
        }
        for (int g = 0; g < 3; g++) {
            Due.due("to come", x.guest(g, 3), 0);
            Due.due("asked nothing so far", x.guest(g, 4), Due.NONE);
            Due.due("mind as told", x.guest(g, 0), 0);
        }
        Due.due("never shown", x.hint(1, 2) + x.hint(0, 2) + x.hint(0, 3), 0);
        Due.due("undo", x.undo(), Due.STATE);
        Due.due("status stays", x.status(), 3);
        Due.due("trace stays", x.trace(0), 21);
        Due.due("the row stays", x.drop(3), 5);
        Due.due("the image stays", x.restore(0), 1);
        Due.due("the other image", x.restore(1), Due.STATE);
    }
}
