import java.util.ArrayDeque;
import java.util.ArrayList;
import java.util.Arrays;
import java.util.List;
import java.util.TreeMap;
import java.util.function.IntPredicate;
import java.util.function.Predicate;

/**
 * The document once more, written another way than the program: evenings are played out on copies, every row
 * of hints is gone through, and an act is undone by going back to a copy of what was ahead of it.
 */
final class Model {
    private static final int NONE = Due.NONE, BAD = Due.BAD, STATE = Due.STATE, FULL = Due.FULL;

    private static final class Hint {
        final char sort;
        final int from, to;
        int shown;

        Hint(char sort, int from, int to) {
            this.sort = sort;
            this.from = from;
            this.to = to;
        }

        int lead(int mind) {
            boolean forth = switch (sort) {
                case 's', 'd' -> mind == from;
                case 'g' -> mind == from || mind + 1 == from;
                case 'w' -> mind == from && shown < 2;
                default -> false;
            };
            boolean back = (sort == 'm' || sort == 'd') && mind == to;
            return forth ? to : back ? from : mind;
        }
    }

    private static final class Guest {
        int mind, fear, bold, state, asked = NONE;

        boolean dares() {
            return bold >= fear;
        }
    }

    private static final class Castle {
        int question, wrong, limit, worse;
        boolean healed;
        final List<Hint> hints = new ArrayList<>();
        final List<Guest> guests = new ArrayList<>();
        final List<Integer> evening = new ArrayList<>();

        Castle twin() {
            Castle twin = new Castle();
            twin.question = question;
            twin.wrong = wrong;
            twin.limit = limit;
            twin.worse = worse;
            twin.healed = healed;
            for (Hint hint : hints) {
                Hint other = new Hint(hint.sort, hint.from, hint.to);
                other.shown = hint.shown;
                twin.hints.add(other);
            }
            for (Guest guest : guests) {
                Guest other = new Guest();
                other.mind = guest.mind;
                other.fear = guest.fear;
                other.bold = guest.bold;
                other.state = guest.state;
                other.asked = guest.asked;
                twin.guests.add(other);
            }
            twin.evening.addAll(evening);
            return twin;
        }

        Guest here() {
            return guests.stream().filter(g -> g.state == 1).findFirst().orElse(null);
        }

        List<Guest> toCome() {
            return guests.stream().filter(g -> g.state == 0).toList();
        }

        void show(Guest guest, int h) {
            guest.mind = hints.get(h).lead(guest.mind);
            hints.get(h).shown++;
        }
    }

    private record Row(int lane, int[] items) {
    }

    private static final class Fault extends Exception {
        private static final long serialVersionUID = 1;
        final int place, number;

        Fault(int place, int number) {
            this.place = place;
            this.number = number;
        }
    }

    private final Row[] rows = new Row[8];
    private StringBuilder tape = new StringBuilder();
    private Castle castle;
    private final Castle[] images = new Castle[2];
    private final ArrayDeque<Castle> past = new ArrayDeque<>();
    private final List<Integer> trace = new ArrayList<>();
    private int fault;
    private int status;

    private int finding(int number) {
        status = number;
        return -1000010 - number;
    }

    private int fine(int answer) {
        status = 0;
        return answer;
    }

    private static boolean in(int n, int least, int most) {
        return least <= n && n <= most;
    }

    private boolean noHint(int h) {
        return castle == null || !in(h, 0, castle.hints.size() - 1);
    }

    private boolean noGuest(int g) {
        return castle == null || !in(g, 0, castle.guests.size() - 1);
    }

    int row(int row, int lane, int n) {
        if (!in(row, 0, 7) || !in(lane, 0, 2) || n > 40) {
            return BAD;
        }
        if (n < 0) {
            return finding(4);
        }
        rows[row] = new Row(lane, new int[n]);
        return fine(n);
    }

    int set(int row, int i, int v) {
        if (!in(row, 0, 7)) {
            return BAD;
        }
        if (rows[row] == null) {
            return finding(1);
        }
        if (!in(i, 0, rows[row].items.length - 1)) {
            return finding(2);
        }
        int cut = 32 - (8 << rows[row].lane);
        rows[row].items[i] = v << cut >> cut;
        return fine(rows[row].items[i]);
    }

    private static boolean beyond(Row row, long i, long n) {
        return i < 0 || n < 0 || i + n > row.items.length;
    }

    int copy(int a, int i, int b, int j, int n) {
        if (!in(a, 0, 7) || !in(b, 0, 7)) {
            return BAD;
        }
        if (rows[a] == null || rows[b] == null) {
            return finding(1);
        }
        if (rows[a].lane != rows[b].lane) {
            return finding(5);
        }
        if (beyond(rows[a], i, n) || beyond(rows[b], j, n)) {
            return finding(2);
        }
        int[] ahead = rows[a].items.clone();
        for (int k = 0; k < n; k++) {
            rows[b].items[j + k] = ahead[i + k];
        }
        return fine(n);
    }

    int drop(int row) {
        if (!in(row, 0, 7)) {
            return BAD;
        }
        if (rows[row] == null) {
            return finding(1);
        }
        int had = rows[row].items.length;
        rows[row] = null;
        return fine(had);
    }

    int feed(int letter) {
        if (!in(letter, 0, 255)) {
            return BAD;
        }
        if (tape.length() == 120) {
            return FULL;
        }
        return tape.append((char) letter).length();
    }

    /** Reads token by token; a token is a text, with its place. */
    private static final class Reader {
        final List<String> tokens = new ArrayList<>();
        final List<Integer> places = new ArrayList<>();
        int next;

        Reader(String text) {
            for (int i = 0; i < text.length();) {
                int end = i + 1;
                while (isFigure(text.charAt(i)) && end < text.length() && isFigure(text.charAt(end))) {
                    end++;
                }
                tokens.add(text.substring(i, end));
                places.add(i);
                i = end;
            }
            tokens.add("");
            places.add(text.length());
        }

        static boolean isFigure(char c) {
            return "0123456789".indexOf(c) >= 0;
        }

        boolean peeks(String letters) {
            String token = tokens.get(next);
            return token.length() == 1 && letters.contains(token);
        }

        String take(Predicate<String> mayStand) throws Fault {
            if (!mayStand.test(tokens.get(next))) {
                throw new Fault(places.get(next), 1);
            }
            next++;
            return tokens.get(next - 1);
        }

        int number(String behind, IntPredicate asTold) throws Fault {
            int n = Integer.parseInt(take(t -> t.matches("[0-9]{1,2}")));
            if (!asTold.test(n)) {
                throw new Fault(places.get(next - 1), 2);
            }
            take(behind::equals);
            return n;
        }

        char begin(boolean isRoom) throws Fault {
            if (!isRoom) {
                throw new Fault(places.get(next), 3);
            }
            next++;
            return tokens.get(next - 1).charAt(0);
        }
    }

    private static Castle read(String text) throws Fault {
        Reader reader = new Reader(text);
        Castle castle = new Castle();
        reader.take("k"::equals);
        castle.question = reader.number(",", n -> n < 8);
        castle.wrong = reader.number(",", n -> n < 8 && n != castle.question);
        castle.limit = reader.number(";", n -> n >= 1 && n <= 5);
        while (reader.peeks("sgwmd")) {
            char sort = reader.begin(castle.hints.size() < 8);
            int from = reader.number(",", n -> n < 8);
            castle.hints.add(new Hint(sort, from, reader.number(";", n -> n < 8 && n != from)));
        }
        while (reader.peeks("n")) {
            reader.begin(castle.guests.size() < 6);
            Guest guest = new Guest();
            guest.mind = reader.number(",", n -> n < 8);
            guest.fear = reader.number(",", n -> n <= 20);
            guest.bold = reader.number(";", n -> n <= 20);
            castle.guests.add(guest);
        }
        reader.take(""::equals);
        return castle;
    }

    int castle() {
        String text = tape.toString();
        tape = new StringBuilder();
        try {
            castle = read(text);
            past.clear();
            return castle.guests.size();
        } catch (Fault found) {
            fault = found.number;
            return -1000100 - found.place;
        }
    }

    int fault() {
        return fault;
    }

    private void act() {
        past.addLast(castle.twin());
        if (past.size() > 24) {
            past.removeFirst();
        }
    }

    int invite(int guest) {
        if (noGuest(guest)) {
            return BAD;
        }
        if (castle.here() != null || castle.guests.get(guest).state == 2 || castle.healed) {
            return STATE;
        }
        act();
        castle.guests.get(guest).state = 1;
        castle.evening.clear();
        return castle.guests.get(guest).mind;
    }

    int show(int hint) {
        if (noHint(hint)) {
            return BAD;
        }
        Guest here = castle.here();
        if (here == null || castle.evening.contains(hint)) {
            return STATE;
        }
        if (castle.evening.size() == castle.limit) {
            return FULL;
        }
        act();
        castle.show(here, hint);
        castle.evening.add(hint);
        return here.mind;
    }

    int speak() {
        if (castle == null || castle.here() == null) {
            return STATE;
        }
        act();
        Guest guest = castle.here();
        if (guest.dares() && guest.mind == castle.question) {
            castle.healed = true;
            guest.asked = guest.mind;
        } else if (guest.dares() && guest.mind == castle.wrong) {
            castle.worse++;
            guest.asked = guest.mind;
        }
        guest.state = 2;
        castle.evening.clear();
        return guest.asked;
    }

    int tale(int guest, int by) {
        if (noGuest(guest) || !in(by, -20, 20) || by == 0) {
            return BAD;
        }
        if (castle.guests.get(guest).state != 0) {
            return STATE;
        }
        act();
        Guest told = castle.guests.get(guest);
        told.bold += by;
        if (told.bold > 20) {
            told.bold = 20;
        }
        if (told.bold < 0) {
            told.bold = 0;
        }
        return told.bold;
    }

    int undo() {
        if (past.isEmpty()) {
            return STATE;
        }
        castle = past.removeLast();
        return past.size();
    }

    int guest(int guest, int what) {
        if (noGuest(guest) || !in(what, 0, 4)) {
            return BAD;
        }
        Guest told = castle.guests.get(guest);
        return new int[] {told.mind, told.fear, told.bold, told.state, told.asked}[what];
    }

    int hint(int hint, int what) {
        if (noHint(hint) || !in(what, 0, 3)) {
            return BAD;
        }
        Hint told = castle.hints.get(hint);
        return new int[] {told.from, told.to, told.shown, castle.evening.contains(hint) ? 1 : 0}[what];
    }

    int leads(int hint, int thought) {
        return noHint(hint) || !in(thought, 0, 7) ? BAD : castle.hints.get(hint).lead(thought);
    }

    /** All rows of unlike hints of these, so many at most, each with the thoughts on its way. */
    private static void everyRow(Castle castle, List<Integer> hints, int most, List<Integer> row, List<Integer> way,
            java.util.function.BiConsumer<List<Integer>, List<Integer>> seen) {
        seen.accept(row, way);
        if (row.size() == most) {
            return;
        }
        for (int h : hints) {
            if (!row.contains(h)) {
                row.add(h);
                way.add(castle.hints.get(h).lead(way.get(way.size() - 1)));
                everyRow(castle, hints, most, row, way, seen);
                row.remove(row.size() - 1);
                way.remove(way.size() - 1);
            }
        }
    }

    private static List<Integer> all(Castle castle) {
        List<Integer> hints = new ArrayList<>();
        for (int h = 0; h < castle.hints.size(); h++) {
            hints.add(h);
        }
        return hints;
    }

    private List<Integer> ahead(Guest guest) {
        List<Integer> hints = all(castle);
        if (guest.state == 1) {
            hints.removeAll(castle.evening);
        }
        return hints;
    }

    private int left(Guest guest) {
        return castle.limit - (guest.state == 1 ? castle.evening.size() : 0);
    }

    private static int last(List<Integer> way) {
        return way.get(way.size() - 1);
    }

    /** The fewest hints, the first row of them; null: there is none. */
    private List<Integer> fewest(Guest guest, boolean safe, List<Integer> hints, int most) {
        List<List<Integer>> best = new ArrayList<>();
        everyRow(castle, hints, most, new ArrayList<>(), new ArrayList<>(List.of(guest.mind)), (row, way) -> {
            boolean leads = last(way) == castle.question && !(safe && way.contains(castle.wrong));
            if (leads && (best.isEmpty() || row.size() < best.get(0).size())) {
                best.clear();
                best.add(new ArrayList<>(row));
            }
        });
        return best.isEmpty() ? null : best.get(0);
    }

    int route(int guest, int safe, int k) {
        if (noGuest(guest) || !in(safe, 0, 1) || k < -1) {
            return BAD;
        }
        Guest told = castle.guests.get(guest);
        if (told.state == 2) {
            return STATE;
        }
        List<Integer> row = fewest(told, safe == 1, ahead(told), left(told));
        if (row == null) {
            return NONE;
        }
        return k == -1 ? row.size() : k < row.size() ? row.get(k) : NONE;
    }

    int thinkable(int guest) {
        if (noGuest(guest)) {
            return BAD;
        }
        Guest told = castle.guests.get(guest);
        if (told.state == 2) {
            return STATE;
        }
        int[] bits = new int[1];
        everyRow(castle, ahead(told), left(told), new ArrayList<>(), new ArrayList<>(List.of(told.mind)),
                (row, way) -> bits[0] |= 1 << last(way));
        return bits[0];
    }

    int chance(int guest, int n, int what) {
        if (noGuest(guest) || !in(n, 0, 4) || !in(what, 0, 1)) {
            return BAD;
        }
        Guest told = castle.guests.get(guest);
        if (told.state == 2) {
            return STATE;
        }
        int[] many = new int[2];
        everyRow(castle, ahead(told), Math.min(n, left(told)), new ArrayList<>(), new ArrayList<>(List.of(told.mind)),
                (row, way) -> {
                    if (row.size() == n) {
                        many[1]++;
                        many[0] += last(way) == castle.question ? 1 : 0;
                    }
                });
        if (many[1] == 0) {
            return NONE;
        }
        int divisor = many[1];
        while (many[0] % divisor != 0 || many[1] % divisor != 0) {
            divisor--;
        }
        return many[what] / divisor;
    }

    int taught(int guest) {
        if (noGuest(guest)) {
            return BAD;
        }
        Guest told = castle.guests.get(guest);
        return told.dares() ? 0 : told.fear - told.bold;
    }

    int bestGuest(int what) {
        if (castle == null) {
            return STATE;
        }
        if (!in(what, 0, 1)) {
            return BAD;
        }
        TreeMap<Integer, Integer> byLength = new TreeMap<>();
        for (Guest guest : castle.toCome()) {
            List<Integer> row = guest.dares() ? fewest(guest, false, all(castle), castle.limit) : null;
            if (row != null) {
                byLength.putIfAbsent(row.size(), castle.guests.indexOf(guest));
            }
        }
        if (byLength.isEmpty()) {
            return NONE;
        }
        return what == 0 ? byLength.firstEntry().getValue() : byLength.firstKey();
    }

    private int withRoute(List<Integer> hints) {
        int many = 0;
        for (Guest guest : castle.toCome()) {
            many += fewest(guest, false, hints, castle.limit) != null ? 1 : 0;
        }
        return many;
    }

    int cover(int what) {
        if (castle == null) {
            return STATE;
        }
        if (!in(what, 0, 1)) {
            return BAD;
        }
        for (int size = 0; size <= castle.hints.size(); size++) {
            for (int bits = 0; bits < 1 << castle.hints.size(); bits++) {
                List<Integer> hints = new ArrayList<>();
                for (int h = 0; h < 8; h++) {
                    if ((bits >> h) % 2 == 1) {
                        hints.add(h);
                    }
                }
                if (hints.size() == size && withRoute(hints) == castle.toCome().size()) {
                    return what == 0 ? size : bits;
                }
            }
        }
        return NONE;
    }

    int spoilt(int what) {
        if (castle == null) {
            return STATE;
        }
        if (!in(what, 0, 1)) {
            return BAD;
        }
        int[] have = new int[castle.hints.size()];
        for (int h = 0; h < have.length; h++) {
            List<Integer> others = all(castle);
            others.remove(Integer.valueOf(h));
            have[h] = withRoute(others);
        }
        int least = Arrays.stream(have).min().orElse(NONE);
        for (int h = 0; h < have.length; h++) {
            if (have[h] == least) {
                return what == 0 ? h : least;
            }
        }
        return NONE;
    }

    int nearly(int row, int i, int n) {
        if (castle == null) {
            return STATE;
        }
        if (!in(row, 0, 7) || !in(n, 0, 8)) {
            return BAD;
        }
        if (rows[row] == null) {
            return finding(1);
        }
        if (beyond(rows[row], i, n)) {
            return finding(2);
        }
        int[] told = Arrays.copyOfRange(rows[row].items, i, i + n);
        if (Arrays.stream(told).anyMatch(this::noHint)) {
            return BAD;
        }
        int bits = 0;
        for (int g = 0; g < castle.guests.size(); g++) {
            Castle twin = castle.twin();
            Guest guest = twin.guests.get(g);
            for (int h : told) {
                twin.show(guest, h);
            }
            bits |= guest.state == 0 && !guest.dares() && guest.mind == castle.question ? 1 << g : 0;
        }
        return fine(bits);
    }

    int image(int k) {
        if (!in(k, 0, 1)) {
            return BAD;
        }
        if (castle == null) {
            return STATE;
        }
        images[k] = castle.twin();
        return 1;
    }

    int restore(int k) {
        if (!in(k, 0, 1)) {
            return BAD;
        }
        if (images[k] == null) {
            return STATE;
        }
        castle = images[k].twin();
        past.clear();
        return 1;
    }

    int kind(int hint) {
        return noHint(hint) ? BAD : 1 + "sgwmd".indexOf(castle.hints.get(hint).sort);
    }

    int as(int hint, int kind) {
        if (noHint(hint) || !in(kind, 0, 5)) {
            return BAD;
        }
        String are = new String[] {"sgwmd", "sgw", "g", "w", "md", "d"}[kind];
        return are.indexOf(castle.hints.get(hint).sort) >= 0 ? fine(hint) : finding(3);
    }

    int ask(int hint, int what) {
        if (noHint(hint) || !in(what, 0, 1)) {
            return BAD;
        }
        trace.clear();
        return what == 0 ? size(hint) : mark(hint);
    }

    private int size(int h) {
        int body = new int[] {11, 12, 11, 13, 14}[kind(h) - 1];
        return body(body, h);
    }

    private int mark(int h) {
        int body = new int[] {21, 24, 22, 23, 23}[kind(h) - 1];
        return body(body, h);
    }

    private int body(int number, int h) {
        trace.add(number);
        if (number == 11) {
            int inner = body(10, h);
            return inner + mark(h);
        }
        if (number == 23) {
            int inner = body(20, h);
            return inner - size(h);
        }
        return switch (number) {
            case 10 -> castle.hints.get(h).shown;
            case 12 -> 0 - body(11, h);
            case 13 -> body(10, h) - 100;
            case 14 -> 2 * body(13, h);
            case 20 -> h;
            case 21 -> body(20, h) + castle.hints.get(h).from;
            case 22 -> body(21, h) - 1000;
            default -> 2 * body(21, h);
        };
    }

    int trace(int i) {
        return in(i, 0, Math.min(16, trace.size()) - 1) ? trace.get(i) : NONE;
    }

    int count(int what) {
        int rowsThere = 0;
        for (Row row : rows) {
            rowsThere += row == null ? 0 : 1;
        }
        Castle c = castle == null ? new Castle() : castle;
        return switch (what) {
            case 0 -> rowsThere;
            case 1 -> c.hints.size();
            case 2 -> c.guests.size();
            case 3 -> c.here() == null ? -1 : c.guests.indexOf(c.here());
            case 4 -> c.healed ? 1 : 0;
            case 5 -> c.worse;
            case 6 -> c.evening.size();
            case 7 -> past.size();
            case 8 -> tape.length();
            default -> BAD;
        };
    }

    int status() {
        return status;
    }
}
