import java.util.ArrayList;
import java.util.List;

/**
 * What is refused, or found, changes nothing but status(); what is told or foretold changes nothing either. Two
 * objects are made alike, one of them gets the call, and all that can be seen of both is compared then.
 */
public final class RefusedTest {
    private static final int MIN = Due.MIN, MAX = Due.MAX;
    private static final int BAD = Due.BAD, STATE = Due.STATE, FULL = Due.FULL;

    private interface Maker {
        AilingKing make();
    }

    private interface Call {
        int on(AilingKing x);
    }

    private final String name;
    private final Maker maker;

    private RefusedTest(String name, Maker maker) {
        this.name = name;
        this.maker = maker;
    }

    public static void main(String[] args) {
        new RefusedTest("without a castle", RefusedTest::withoutCastle).noCastle();
        RefusedTest evening = new RefusedTest("on an evening", RefusedTest::evening);
        evening.rows();
        evening.acts();
        evening.foretold();
        evening.asked();
        evening.looks();
        new RefusedTest("when all is full", RefusedTest::full).whenFull();
        new RefusedTest("when the king is healed", RefusedTest::healed).whenHealed();
        Due.finish();
    }

    private static AilingKing withoutCastle() {
        AilingKing x = new AilingKing();
        x.row(0, 0, 4);
        x.set(0, 1, 3);
        x.row(1, 1, 0);
        x.feed('k');
        x.castle();
        x.feed('k');
        x.set(2, 0, 0);
        return x;
    }

    private static AilingKing evening() {
        AilingKing x = Due.castle("k7,6,3;s0,1;g2,3;w3,7;m5,4;d1,7;n0,2,2;n3,5,4;n6,0,0;n2,1,9;", 4);
        x.image(0);
        x.row(0, 0, 4);
        x.set(0, 1, 2);
        x.row(1, 1, 3);
        x.set(1, 2, 4);
        x.row(2, 0, 0);
        x.tale(3, -2);
        x.invite(2);
        x.show(2);
        x.speak();
        x.invite(0);
        x.show(1);
        x.ask(1, 0);
        Due.feed(x, "k8");
        x.castle();
        Due.feed(x, "k1,2,3;n4,4");
        x.as(0, 4);
        return x;
    }

    private static AilingKing full() {
        AilingKing x = evening();
        x.castle();
        Due.feed(x, "k1,2,3;n4,4,4;" + "x".repeat(106));
        x.show(0);
        x.show(2);
        x.copy(0, 0, 1, 0, 1);
        return x;
    }

    private static AilingKing healed() {
        AilingKing x = evening();
        x.show(0);
        x.show(4);
        x.speak();
        x.image(1);
        x.row(3, 0, -1);
        return x;
    }

    /** All that can be seen, status() excepted; the object is not fit for more afterwards. */
    private static List<Integer> seen(AilingKing x) {
        List<Integer> all = new ArrayList<>();
        for (int what = 0; what < 9; what++) {
            all.add(x.count(what));
        }
        all.add(x.fault());
        seeCastle(x, all);
        for (int i = 0; i < 8; i++) {
            all.add(x.trace(i));
        }
        for (int k = -1; k < 2; k++) {
            all.add(x.route(0, 0, k));
            all.add(x.route(1, 1, k));
        }
        for (int i = 0; i < 4; i++) {
            all.add(x.nearly(0, i, 1));
            all.add(x.nearly(1, i, 1));
        }
        for (int turn = 0; turn < 25; turn++) {
            all.add(x.undo());
            all.add(x.guest(0, 0) + 10 * x.guest(3, 2) + 1000 * x.count(3) + 10000 * x.hint(1, 2));
        }
        seeCastle(x, all);
        all.add(x.castle());
        all.add(x.fault());
        for (int k = 0; k < 2; k++) {
            all.add(x.restore(k));
            seeCastle(x, all);
        }
        for (int row = 0; row < 8; row++) {
            all.add(x.copy(row, 0, 0, 0, 0));
        }
        for (int row = 0; row < 8; row++) {
            all.add(x.drop(row));
        }
        return all;
    }

    private static void seeCastle(AilingKing x, List<Integer> all) {
        for (int g = 0; g < 4; g++) {
            all.add(x.guest(g, 0));
            all.add(x.guest(g, 2));
            all.add(x.guest(g, 3));
            all.add(x.guest(g, 4));
        }
        for (int h = 0; h < 5; h++) {
            all.add(x.hint(h, 2));
            all.add(x.hint(h, 3));
        }
        all.add(x.count(4));
        all.add(x.count(5));
        all.add(x.cover(1));
    }

    private void stays(String call, int answer, Call made) {
        AilingKing got = maker.make();
        AilingKing other = maker.make();
        Due.due(call + " " + name, made.on(got), answer);
        boolean isFound = answer <= Due.NULL && answer >= Due.STORE;
        boolean isLookAtRow = call.equals("nearly") && answer >= 0;
        int status = isLookAtRow ? 0 : isFound ? -1000010 - answer : other.status();
        Due.due("status() after " + call + " " + name, got.status(), status);
        List<Integer> of = seen(got);
        List<Integer> ofOther = seen(other);
        for (int i = 0; i < of.size(); i++) {
            Due.due("what is seen at " + i + " after " + call + " " + name, of.get(i), ofOther.get(i));
        }
    }

    private void noCastle() {
        stays("invite", BAD, x -> x.invite(0));
        stays("show", BAD, x -> x.show(0));
        stays("speak", STATE, x -> x.speak());
        stays("tale", BAD, x -> x.tale(0, 1));
        stays("undo", STATE, x -> x.undo());
        stays("route", BAD, x -> x.route(0, 0, -1));
        stays("bestGuest", STATE, x -> x.bestGuest(0));
        stays("cover", STATE, x -> x.cover(0));
        stays("spoilt", STATE, x -> x.spoilt(0));
        stays("nearly", STATE, x -> x.nearly(0, 0, 1));
        stays("nearly", STATE, x -> x.nearly(3, 0, 1));
        stays("image", STATE, x -> x.image(0));
        stays("restore", STATE, x -> x.restore(1));
        stays("as", BAD, x -> x.as(0, 0));
        stays("ask", BAD, x -> x.ask(0, 0));
        stays("row", Due.SIZE, x -> x.row(0, 0, -1));
        stays("set", Due.PLACE, x -> x.set(0, 4, 1));
        stays("copy", Due.STORE, x -> x.copy(0, 0, 1, 0, 0));
        stays("drop", Due.NULL, x -> x.drop(7));
        stays("feed", BAD, x -> x.feed(256));
    }

    private void rows() {
        stays("row", BAD, x -> x.row(8, 0, 1));
        stays("row", BAD, x -> x.row(-1, 0, -1));
        stays("row", BAD, x -> x.row(0, 3, 1));
        stays("row", BAD, x -> x.row(0, 0, 41));
        stays("row", Due.SIZE, x -> x.row(0, 0, -1));
        stays("row", Due.SIZE, x -> x.row(7, 2, MIN));
        stays("set", BAD, x -> x.set(8, 0, 1));
        stays("set", Due.NULL, x -> x.set(3, 0, 1));
        stays("set", Due.PLACE, x -> x.set(0, -1, 1));
        stays("set", Due.PLACE, x -> x.set(0, 4, 1));
        stays("set", Due.PLACE, x -> x.set(2, 0, 1));
        stays("copy", BAD, x -> x.copy(8, 0, 0, 0, 1));
        stays("copy", BAD, x -> x.copy(0, 0, -1, 0, 1));
        stays("copy", Due.NULL, x -> x.copy(3, 0, 0, 0, 0));
        stays("copy", Due.NULL, x -> x.copy(0, 0, 3, 0, 0));
        stays("copy", Due.STORE, x -> x.copy(0, 1, 1, 0, 1));
        stays("copy", Due.PLACE, x -> x.copy(0, 1, 0, 2, 3));
        stays("copy", Due.PLACE, x -> x.copy(0, 1, 0, 0, -1));
        stays("copy", Due.PLACE, x -> x.copy(0, 0, 2, 0, 1));
        stays("copy", Due.PLACE, x -> x.copy(0, 3, 0, 0, 2));
        stays("drop", BAD, x -> x.drop(8));
        stays("drop", Due.NULL, x -> x.drop(7));
        stays("nearly", BAD, x -> x.nearly(8, 0, 1));
        stays("nearly", BAD, x -> x.nearly(0, 0, 9));
        stays("nearly", Due.NULL, x -> x.nearly(3, 0, 1));
        stays("nearly", Due.PLACE, x -> x.nearly(0, 0, 5));
    }

    private void acts() {
        stays("feed", BAD, x -> x.feed(-1));
        stays("invite", BAD, x -> x.invite(4));
        stays("invite", STATE, x -> x.invite(1));
        stays("invite", STATE, x -> x.invite(0));
        stays("invite", STATE, x -> x.invite(2));
        stays("show", BAD, x -> x.show(5));
        stays("show", STATE, x -> x.show(1));
        stays("tale", BAD, x -> x.tale(4, 1));
        stays("tale", BAD, x -> x.tale(3, 0));
        stays("tale", BAD, x -> x.tale(3, 21));
        stays("tale", STATE, x -> x.tale(0, 1));
        stays("tale", STATE, x -> x.tale(2, 1));
        stays("guest", BAD, x -> x.guest(0, 5));
        stays("hint", BAD, x -> x.hint(5, 0));
        stays("leads", BAD, x -> x.leads(0, 8));
    }

    private void foretold() {
        stays("route", BAD, x -> x.route(0, 2, 0));
        stays("route", BAD, x -> x.route(0, 0, -2));
        stays("route", STATE, x -> x.route(2, 0, 0));
        stays("route", Due.NONE, x -> x.route(0, 0, 5));
        stays("thinkable", BAD, x -> x.thinkable(4));
        stays("thinkable", STATE, x -> x.thinkable(2));
        stays("chance", BAD, x -> x.chance(0, 5, 0));
        stays("chance", STATE, x -> x.chance(2, 1, 0));
        stays("chance", Due.NONE, x -> x.chance(0, 3, 0));
        stays("taught", BAD, x -> x.taught(-1));
        stays("bestGuest", BAD, x -> x.bestGuest(2));
        stays("cover", BAD, x -> x.cover(-1));
        stays("spoilt", BAD, x -> x.spoilt(2));
        stays("image", BAD, x -> x.image(2));
        stays("restore", BAD, x -> x.restore(-1));
        stays("restore", STATE, x -> x.restore(1));
    }

    private void asked() {
        stays("kind", BAD, x -> x.kind(5));
        stays("as", BAD, x -> x.as(5, 0));
        stays("as", BAD, x -> x.as(0, 6));
        stays("as", Due.KIND, x -> x.as(1, 3));
        stays("ask", BAD, x -> x.ask(5, 0));
        stays("ask", BAD, x -> x.ask(0, 2));
        stays("trace", Due.NONE, x -> x.trace(16));
        stays("count", BAD, x -> x.count(9));
    }

    private void looks() {
        stays("fault", 2, x -> x.fault());
        stays("status", 3, x -> x.status());
        stays("guest", 0, x -> x.guest(0, 0));
        stays("hint", 1, x -> x.hint(1, 2));
        stays("leads", 7, x -> x.leads(2, 3));
        stays("route", 0, x -> x.route(0, 0, 0));
        stays("route", 2, x -> x.route(0, 1, -1));
        stays("thinkable", 1 | 1 << 1 | 1 << 7, x -> x.thinkable(0));
        stays("chance", 1, x -> x.chance(0, 2, 0));
        stays("chance", 12, x -> x.chance(0, 2, 1));
        stays("taught", 1, x -> x.taught(1));
        stays("bestGuest", 3, x -> x.bestGuest(0));
        stays("cover", 6, x -> x.cover(1));
        stays("spoilt", 2, x -> x.spoilt(0));
        stays("nearly", 2, x -> x.nearly(0, 0, 2));
    }

    private void whenFull() {
        stays("feed", FULL, x -> x.feed('k'));
        stays("feed", BAD, x -> x.feed(256));
        stays("show", FULL, x -> x.show(3));
        stays("show", FULL, x -> x.show(4));
        stays("show", STATE, x -> x.show(0));
        stays("show", BAD, x -> x.show(5));
        stays("chance", Due.NONE, x -> x.chance(0, 1, 0));
    }

    private void whenHealed() {
        stays("invite", STATE, x -> x.invite(1));
        stays("invite", STATE, x -> x.invite(3));
        stays("invite", BAD, x -> x.invite(MAX));
        stays("show", STATE, x -> x.show(3));
        stays("speak", STATE, x -> x.speak());
        stays("tale", STATE, x -> x.tale(0, 1));
        stays("tale", BAD, x -> x.tale(1, -21));
        stays("route", STATE, x -> x.route(0, 0, -1));
    }
}
