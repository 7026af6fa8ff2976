/** All promises: runs of calls by numbers that only look like hazard, each answered as the Model answers it. */
public final class ModelTest {
    private static final int RUNS = 400;
    private static final int[] ODD = {-1, 7, 8, 40, 41, -21, 21, 256, 128, -129, 40000, 1000000,
        Integer.MIN_VALUE, Integer.MAX_VALUE};
    private long state;
    private AilingKing king = new AilingKing();
    private Model model = new Model();
    private int calls;

    public static void main(String[] args) {
        for (int run = 0; run < RUNS; run++) {
            new ModelTest().play(run);
        }
        Due.finish();
    }

    private int pick(int many) {
        state = state * 6364136223846793005L + 1442695040888963407L;
        return (int) ((state >>> 33) % many);
    }

    /** Below many, but now and then a number that is not as told. */
    private int some(int many) {
        return pick(30) == 0 ? ODD[pick(ODD.length)] : pick(many);
    }

    private void same(String call, int got, int want) {
        calls++;
        Due.due(call + " at call " + calls, got, want);
    }

    private void play(int run) {
        state = run * 977L + 5;
        int wants = pick(8) == 0 ? 0 : 1 + pick(3);
        for (int turn = 0; turn < 512 && calls < 400; turn++) {
            boolean isTime = turn == 2 || pick(60) == 0;
            if (wants > 0 && isTime) {
                wants--;
                readText(pick(5) == 0 ? spoiltText() : text());
            } else {
                int group = pick(10);
                if (group < 2) {
                    callRows();
                } else if (group < 6) {
                    callActs();
                } else if (group < 9) {
                    callForetold();
                } else {
                    callAsked();
                }
            }
            if (pick(6) == 0) {
                lookAround();
            }
        }
    }

    private String text() {
        int question = pick(8);
        int wrong = (question + 1 + pick(7)) % 8;
        StringBuilder text = new StringBuilder("k" + question + "," + wrong + "," + (1 + pick(5)) + ";");
        int hints = pick(5) == 0 ? pick(9) : 4 + pick(5);
        for (int h = 0; h < hints; h++) {
            int from = pick(8);
            text.append("sgwmd".charAt(pick(5))).append(pick(4) == 0 ? "0" : "").append(from).append(',');
            text.append((from + 1 + pick(7)) % 8).append(';');
        }
        int guests = pick(5) == 0 ? pick(7) : 3 + pick(4);
        for (int g = 0; g < guests; g++) {
            text.append('n').append(pick(8)).append(',').append(pick(10)).append(',').append(pick(10)).append(';');
        }
        return text.toString();
    }

    private String spoiltText() {
        StringBuilder text = new StringBuilder(text());
        for (int change = 0; change <= pick(2); change++) {
            int place = pick(text.length());
            int how = pick(4);
            if (how == 0) {
                text.setLength(Math.max(1, place));
            } else if (how == 1) {
                text.deleteCharAt(place);
            } else if (how == 2) {
                text.setCharAt(place, "0123456789,;ksgwmdn xK".charAt(pick(22)));
            } else {
                text.insert(place, "0123456789,;ksgwmdn xK".charAt(pick(22)));
            }
            if (text.length() == 0) {
                text.append('k');
            }
        }
        return text.toString();
    }

    private void readText(String text) {
        for (int i = 0; i < text.length(); i++) {
            same("feed", king.feed(text.charAt(i)), model.feed(text.charAt(i)));
        }
        same("castle of " + text, king.castle(), model.castle());
        same("fault", king.fault(), model.fault());
    }

    private void callRows() {
        int a = some(4);
        int b = some(4);
        int i = pick(4) == 0 ? some(42) : pick(3);
        int j = pick(4) == 0 ? some(42) : pick(3);
        int n = some(9);
        switch (pick(7)) {
            case 0, 1 -> {
                int lane = some(6) % 3;
                int items = pick(2) == 0 ? 10 : some(42);
                same("row", king.row(a, lane, items), model.row(a, lane, items));
            }
            case 2, 3 -> {
                int v = some(8) + (pick(9) == 0 ? 256 : 0);
                same("set", king.set(a, i, v), model.set(a, i, v));
            }
            case 4, 5 -> same("copy", king.copy(a, i, b, j, n), model.copy(a, i, b, j, n));
            default -> {
                if (pick(5) == 0) {
                    same("drop", king.drop(a), model.drop(a));
                } else {
                    int letter = some(300);
                    same("feed", king.feed(letter), model.feed(letter));
                    if (pick(3) == 0) {
                        same("castle", king.castle(), model.castle());
                    }
                }
            }
        }
    }

    private void callActs() {
        int guest = some(6);
        int hint = some(8);
        switch (pick(12)) {
            case 0, 1 -> same("invite", king.invite(guest), model.invite(guest));
            case 2, 3, 4, 5 -> same("show", king.show(hint), model.show(hint));
            case 6 -> same("speak", king.speak(), model.speak());
            case 7, 8 -> {
                int by = some(41) - 20;
                same("tale", king.tale(guest, by), model.tale(guest, by));
            }
            case 9, 10 -> {
                int times = pick(6) == 0 ? 30 : 1 + pick(3);
                for (int time = 0; time < times; time++) {
                    same("undo", king.undo(), model.undo());
                }
            }
            default -> {
                int k = some(2);
                if (pick(2) == 0) {
                    same("image", king.image(k), model.image(k));
                } else {
                    same("restore", king.restore(k), model.restore(k));
                }
            }
        }
    }

    private void callForetold() {
        int guest = some(6);
        int what = some(2);
        switch (pick(20)) {
            case 0 -> same("cover " + what, king.cover(what), model.cover(what));
            case 1, 2 -> same("spoilt " + what, king.spoilt(what), model.spoilt(what));
            case 3, 4 -> same("bestGuest " + what, king.bestGuest(what), model.bestGuest(what));
            case 5, 6 -> same("thinkable", king.thinkable(guest), model.thinkable(guest));
            case 7, 8, 9 -> {
                int n = some(6);
                same("chance " + n, king.chance(guest, n, what), model.chance(guest, n, what));
            }
            case 10 -> same("taught", king.taught(guest), model.taught(guest));
            case 11, 12, 13, 14 -> {
                int k = some(7) - 1;
                same("route " + k, king.route(guest, what, k), model.route(guest, what, k));
            }
            default -> {
                int row = some(4);
                int i = some(5);
                int n = some(9);
                same("nearly", king.nearly(row, i, n), model.nearly(row, i, n));
            }
        }
    }

    private void callAsked() {
        int hint = some(8);
        int kind = some(6);
        int what = some(2);
        int thought = some(8);
        switch (pick(4)) {
            case 0 -> same("kind", king.kind(hint), model.kind(hint));
            case 1 -> same("as", king.as(hint, kind), model.as(hint, kind));
            case 2 -> same("leads", king.leads(hint, thought), model.leads(hint, thought));
            default -> {
                same("ask", king.ask(hint, what), model.ask(hint, what));
                for (int i = -1; i < 8; i++) {
                    same("trace", king.trace(i), model.trace(i));
                }
            }
        }
    }

    private void lookAround() {
        int guest = some(6);
        int hint = some(8);
        int what = some(10);
        same("guest", king.guest(guest, what), model.guest(guest, what));
        same("hint", king.hint(hint, what), model.hint(hint, what));
        same("count " + what, king.count(what), model.count(what));
        same("status", king.status(), model.status());
        same("fault", king.fault(), model.fault());
    }
}
