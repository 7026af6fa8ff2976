/**
 * The question nobody asked: a castle with a sick king, its hints and its guests.
 * What each call answers is promised in ../shared/DOC.md; the words in capitals there are the names used here.
 */
public final class AilingKing {
    public static final int NONE = -1000000, BAD = -1000001, STATE = -1000002, FULL = -1000003;

    private static final int FINDINGS = -1000010, FAULTS = -1000100;
    private static final int NULL = 1, PLACE = 2, KIND = 3, SIZE = 4, STORE = 5;
    private static final int CANNOT_STAND = 1, NOT_AS_TOLD = 2, NO_ROOM = 3;

    private static final int ROWS = 8, LANES = 3, MOST_ITEMS = 40, MOST_BYTES = 120;
    private static final int THOUGHTS = 8, MOST_HINTS = 8, MOST_GUESTS = 6, MOST_LIMIT = 5, MOST_HEART = 20;
    private static final int MOST_ACTS = 24, MOST_CHANCE = 4, MOST_NEARLY = 8, MOST_TRACE = 16, WORN_OUT = 2;

    private static final int HINT = 0, SILENT = 1, SUNG = 2, WORN = 3, MISTAKEN = 4, DOUBLE = 5;
    private static final int TO_COME = 0, HERE = 1, BEEN = 2, NOBODY = -1;
    private static final int INVITED = 0, SHOWN = 1, SPOKE = 2, TOLD = 3;

    private final Rows rows = new Rows();
    private final Tape tape = new Tape();
    private final Castle now = new Castle();
    private final Castle draft = new Castle();
    private final Castle firstImage = new Castle();
    private final Castle secondImage = new Castle();
    private final Acts acts = new Acts();
    private final Foretold foretold = new Foretold();
    private final Asks asks = new Asks();
    private int latestFault;
    private int latestFinding;

    public AilingKing() {
    }

    // ---- rows

    public int row(int row, int lane, int n) {
        if (!isBelow(row, ROWS) || !isBelow(lane, LANES) || n > MOST_ITEMS) {
            return BAD;
        }
        if (n < 0) {
            return found(SIZE);
        }
        rows.make(row, lane, n);
        return foundNothing(n);
    }

    public int set(int row, int i, int v) {
        if (!isBelow(row, ROWS)) {
            return BAD;
        }
        if (rows.isMissing(row)) {
            return found(NULL);
        }
        if (!rows.holds(row, i, 1)) {
            return found(PLACE);
        }
        return foundNothing(rows.put(row, i, v));
    }

    public int copy(int a, int i, int b, int j, int n) {
        if (!isBelow(a, ROWS) || !isBelow(b, ROWS)) {
            return BAD;
        }
        if (rows.isMissing(a) || rows.isMissing(b)) {
            return found(NULL);
        }
        if (rows.laneOf(a) != rows.laneOf(b)) {
            return found(STORE);
        }
        if (!rows.holds(a, i, n) || !rows.holds(b, j, n)) {
            return found(PLACE);
        }
        rows.carry(a, i, b, j, n);
        return foundNothing(n);
    }

    public int drop(int row) {
        if (!isBelow(row, ROWS)) {
            return BAD;
        }
        if (rows.isMissing(row)) {
            return found(NULL);
        }
        return foundNothing(rows.remove(row));
    }

    // ---- castles, acts

    public int feed(int letter) {
        if (!isBelow(letter, 256)) {
            return BAD;
        }
        if (tape.length >= MOST_BYTES) {
            return FULL;
        }
        return tape.append(letter);
    }

    public int castle() {
        boolean isRead = tape.tells(draft);
        tape.length = 0;
        if (!isRead) {
            latestFault = tape.fault;
            return FAULTS - tape.at;
        }
        // Nobody was ever invited into the draft: its evenings are still to begin.
        draft.stands = true;
        now.become(draft);
        acts.forgetAll();
        return now.guests;
    }

    public int fault() {
        return latestFault;
    }

    public int invite(int guest) {
        if (!now.isGuest(guest)) {
            return BAD;
        }
        if (now.here != NOBODY || now.stateOf(guest) == BEEN || now.healed) {
            return STATE;
        }
        acts.keep(INVITED, guest, 0);
        now.receive(guest);
        return now.mind[guest];
    }

    public int show(int hint) {
        if (!now.isHint(hint)) {
            return BAD;
        }
        if (now.here == NOBODY || has(now.tonight, hint)) {
            return STATE;
        }
        if (Integer.bitCount(now.tonight) >= now.limit) {
            return FULL;
        }
        acts.keep(SHOWN, hint, now.mind[now.here]);
        now.reveal(hint);
        return now.mind[now.here];
    }

    public int speak() {
        int guest = now.here;
        if (guest == NOBODY) {
            return STATE;
        }
        acts.keep(SPOKE, guest, now.tonight);
        now.hear(guest);
        return now.asked[guest];
    }

    public int tale(int guest, int by) {
        if (!now.isGuest(guest) || by < -MOST_HEART || by > MOST_HEART || by == 0) {
            return BAD;
        }
        if (now.stateOf(guest) != TO_COME) {
            return STATE;
        }
        acts.keep(TOLD, guest, now.bold[guest]);
        now.bold[guest] = Math.max(0, Math.min(MOST_HEART, now.bold[guest] + by));
        return now.bold[guest];
    }

    public int undo() {
        if (acts.kept == 0) {
            return STATE;
        }
        int place = acts.takeLatest();
        takeBack(acts.what[place], acts.who[place], acts.before[place]);
        return acts.kept;
    }

    public int guest(int guest, int what) {
        if (!now.isGuest(guest)) {
            return BAD;
        }
        switch (what) {
            case 0: return now.mind[guest];
            case 1: return now.fear[guest];
            case 2: return now.bold[guest];
            case 3: return now.stateOf(guest);
            case 4: return now.asked[guest];
            default: return BAD;
        }
    }

    public int hint(int hint, int what) {
        if (!now.isHint(hint)) {
            return BAD;
        }
        switch (what) {
            case 0: return now.from[hint];
            case 1: return now.to[hint];
            case 2: return now.shown[hint];
            case 3: return has(now.tonight, hint) ? 1 : 0;
            default: return BAD;
        }
    }

    public int leads(int hint, int thought) {
        if (!now.isHint(hint) || !isBelow(thought, THOUGHTS)) {
            return BAD;
        }
        return now.ledFrom(thought, hint, now.shown[hint]);
    }

    // ---- foretold

    public int route(int guest, int safe, int k) {
        if (!now.isGuest(guest) || !isBelow(safe, 2) || k < -1) {
            return BAD;
        }
        if (now.stateOf(guest) == BEEN) {
            return STATE;
        }
        foretold.measure(now, now.hintsAhead(guest), safe == 1);
        int fewest = foretold.fewestFrom(now.mind[guest], now.leftAhead(guest));
        if (fewest == NONE || k == -1) {
            return fewest;
        }
        return k < fewest ? foretold.hintOfRoute(now, guest, fewest, k) : NONE;
    }

    public int thinkable(int guest) {
        if (!now.isGuest(guest)) {
            return BAD;
        }
        if (now.stateOf(guest) == BEEN) {
            return STATE;
        }
        return Foretold.thoughtsWithin(now, now.mind[guest], now.hintsAhead(guest), now.leftAhead(guest));
    }

    public int chance(int guest, int n, int what) {
        if (!now.isGuest(guest) || !isBelow(n, MOST_CHANCE + 1) || !isBelow(what, 2)) {
            return BAD;
        }
        if (now.stateOf(guest) == BEEN) {
            return STATE;
        }
        int ahead = now.hintsAhead(guest);
        if (n > Integer.bitCount(ahead) || n > now.leftAhead(guest)) {
            return NONE;
        }
        int above = Foretold.rowsToQuestion(now, now.mind[guest], ahead, n);
        int below = rowsOfUnlike(Integer.bitCount(ahead), n);
        int common = commonDivisor(above, below);
        return (what == 0 ? above : below) / common;
    }

    public int taught(int guest) {
        if (!now.isGuest(guest)) {
            return BAD;
        }
        return Math.max(0, now.fear[guest] - now.bold[guest]);
    }

    public int bestGuest(int what) {
        if (!now.stands) {
            return STATE;
        }
        if (!isBelow(what, 2)) {
            return BAD;
        }
        return foretold.bestOf(now, what == 0);
    }

    public int cover(int what) {
        if (!now.stands) {
            return STATE;
        }
        if (!isBelow(what, 2)) {
            return BAD;
        }
        int hints = foretold.fewestForAll(now);
        return hints == NONE || what == 1 ? hints : Integer.bitCount(hints);
    }

    public int spoilt(int what) {
        if (!now.stands) {
            return STATE;
        }
        if (!isBelow(what, 2)) {
            return BAD;
        }
        return foretold.mostMissed(now, what == 0);
    }

    public int nearly(int row, int i, int n) {
        if (!now.stands) {
            return STATE;
        }
        if (!isBelow(row, ROWS) || !isBelow(n, MOST_NEARLY + 1)) {
            return BAD;
        }
        if (rows.isMissing(row)) {
            return found(NULL);
        }
        if (!rows.holds(row, i, n)) {
            return found(PLACE);
        }
        for (int j = 0; j < n; j++) {
            if (!now.isHint(rows.itemOf(row, i + j))) {
                return BAD;
            }
        }
        return foundNothing(Foretold.wouldAskButFear(now, rows, row, i, n));
    }

    public int image(int k) {
        if (!isBelow(k, 2)) {
            return BAD;
        }
        if (!now.stands) {
            return STATE;
        }
        imageOf(k).become(now);
        return 1;
    }

    public int restore(int k) {
        if (!isBelow(k, 2)) {
            return BAD;
        }
        if (!imageOf(k).stands) {
            return STATE;
        }
        now.become(imageOf(k));
        acts.forgetAll();
        return 1;
    }

    // ---- asked

    public int kind(int hint) {
        return now.isHint(hint) ? now.sort[hint] : BAD;
    }

    public int as(int hint, int kind) {
        if (!now.isHint(hint) || !isBelow(kind, DOUBLE + 1)) {
            return BAD;
        }
        if (!isOneOf(now.sort[hint], kind)) {
            return found(KIND);
        }
        return foundNothing(hint);
    }

    public int ask(int hint, int what) {
        if (!now.isHint(hint) || !isBelow(what, 2)) {
            return BAD;
        }
        return asks.answer(now, hint, what);
    }

    public int trace(int i) {
        return isBelow(i, asks.length) ? asks.begun[i] : NONE;
    }

    public int count(int what) {
        switch (what) {
            case 0: return rows.present();
            case 1: return now.hints;
            case 2: return now.guests;
            case 3: return now.here;
            case 4: return now.healed ? 1 : 0;
            case 5: return now.worse;
            case 6: return Integer.bitCount(now.tonight);
            case 7: return acts.kept;
            case 8: return tape.length;
            default: return BAD;
        }
    }

    public int status() {
        return latestFinding;
    }

    // ---- what the calls share

    private static boolean isBelow(int number, int end) {
        return number >= 0 && number < end;
    }

    private static boolean has(int bits, int number) {
        return (bits >> number & 1) != 0;
    }

    private int found(int finding) {
        latestFinding = finding;
        return FINDINGS - finding;
    }

    private int foundNothing(int answer) {
        latestFinding = 0;
        return answer;
    }

    private Castle imageOf(int k) {
        return k == 0 ? firstImage : secondImage;
    }

    private void takeBack(int act, int who, int before) {
        switch (act) {
            case INVITED:
                now.dismiss();
                break;
            case SHOWN:
                now.conceal(who, before);
                break;
            case SPOKE:
                now.unhear(who, before);
                break;
            default:
                now.bold[who] = before;
                break;
        }
    }

    /** How many rows of n unlike ones there are of so many. */
    private static int rowsOfUnlike(int many, int n) {
        int product = 1;
        for (int j = 0; j < n; j++) {
            product *= many - j;
        }
        return product;
    }

    /** Never 0, so that it can divide. */
    private static int commonDivisor(int above, int below) {
        int larger = below;
        int smaller = above;
        for (int turn = 0; turn < 64 && smaller != 0; turn++) {
            int rest = larger % smaller;
            larger = smaller;
            smaller = rest;
        }
        return larger == 0 ? 1 : larger;
    }

    private static int parentOf(int kind) {
        if (kind == SUNG || kind == WORN) {
            return SILENT;
        }
        return kind == DOUBLE ? MISTAKEN : HINT;
    }

    private static boolean isOneOf(int kind, int wanted) {
        return wanted == HINT || wanted == kind || wanted == parentOf(kind);
    }

    /** The rows, each with its own stretch of one array, so that no call makes an array. */
    private static final class Rows {
        private static final int MISSING = -1;
        private final int[] items = new int[ROWS * MOST_ITEMS];
        private final int[] lane = new int[ROWS];
        private final int[] size = new int[ROWS];

        Rows() {
            for (int row = 0; row < ROWS; row++) {
                size[row] = MISSING;
            }
        }

        void make(int row, int itsLane, int n) {
            lane[row] = itsLane;
            size[row] = n;
            for (int i = 0; i < n; i++) {
                items[row * MOST_ITEMS + i] = 0;
            }
        }

        int remove(int row) {
            int had = size[row];
            size[row] = MISSING;
            return had;
        }

        boolean isMissing(int row) {
            return size[row] == MISSING;
        }

        int laneOf(int row) {
            return lane[row];
        }

        /** Whether n places from i on are all there. */
        boolean holds(int row, int i, int n) {
            return i >= 0 && n >= 0 && i <= size[row] - n;
        }

        int put(int row, int i, int v) {
            int kept = lane[row] == 0 ? (byte) v : lane[row] == 1 ? (short) v : v;
            items[row * MOST_ITEMS + i] = kept;
            return kept;
        }

        int itemOf(int row, int i) {
            return items[row * MOST_ITEMS + i];
        }

        void carry(int a, int i, int b, int j, int n) {
            System.arraycopy(items, a * MOST_ITEMS + i, items, b * MOST_ITEMS + j, n);
        }

        int present() {
            int many = 0;
            for (int row = 0; row < ROWS; row++) {
                many += isMissing(row) ? 0 : 1;
            }
            return many;
        }
    }

    /** The tape, and the reading of it: at stays on the token that has the fault. */
    private static final class Tape {
        private static final int THE_END = -1, ANY = -1;
        private final int[] bytes = new int[MOST_BYTES];
        int length;
        int at;
        int fault;
        private int value;

        int append(int letter) {
            bytes[length] = letter;
            length++;
            return length;
        }

        boolean tells(Castle castle) {
            at = 0;
            return tellsLaw(castle) && tellsHints(castle) && tellsGuests(castle)
                    && (at == length || isFaulty(CANNOT_STAND));
        }

        private boolean tellsLaw(Castle castle) {
            if (!tellsSign('k') || !tellsNumber(0, THOUGHTS - 1, ANY)) {
                return false;
            }
            castle.question = value;
            if (!tellsSign(',') || !tellsNumber(0, THOUGHTS - 1, castle.question)) {
                return false;
            }
            castle.wrong = value;
            if (!tellsSign(',') || !tellsNumber(1, MOST_LIMIT, ANY)) {
                return false;
            }
            castle.limit = value;
            return tellsSign(';');
        }

        private boolean tellsHints(Castle castle) {
            int h = 0;
            for (; h < MOST_HINTS && sortOf(letter()) != HINT; h++) {
                if (!tellsHint(castle, h)) {
                    return false;
                }
            }
            castle.hints = h;
            return sortOf(letter()) == HINT || isFaulty(NO_ROOM);
        }

        private boolean tellsHint(Castle castle, int h) {
            castle.sort[h] = sortOf(letter());
            at++;
            if (!tellsNumber(0, THOUGHTS - 1, ANY)) {
                return false;
            }
            castle.from[h] = value;
            if (!tellsSign(',') || !tellsNumber(0, THOUGHTS - 1, castle.from[h])) {
                return false;
            }
            castle.to[h] = value;
            return tellsSign(';');
        }

        private boolean tellsGuests(Castle castle) {
            int g = 0;
            for (; g < MOST_GUESTS && letter() == 'n'; g++) {
                if (!tellsGuest(castle, g)) {
                    return false;
                }
            }
            castle.guests = g;
            return letter() != 'n' || isFaulty(NO_ROOM);
        }

        private boolean tellsGuest(Castle castle, int g) {
            at++;
            if (!tellsNumber(0, THOUGHTS - 1, ANY)) {
                return false;
            }
            castle.mind[g] = value;
            if (!tellsSign(',') || !tellsNumber(0, MOST_HEART, ANY)) {
                return false;
            }
            castle.fear[g] = value;
            if (!tellsSign(',') || !tellsNumber(0, MOST_HEART, ANY)) {
                return false;
            }
            castle.bold[g] = value;
            return tellsSign(';');
        }

        private boolean tellsSign(int sign) {
            if (letter() != sign) {
                return isFaulty(CANNOT_STAND);
            }
            at++;
            return true;
        }

        /** A number from least to most, unlike another; it is then the value. */
        private boolean tellsNumber(int least, int most, int unlike) {
            int end = at;
            value = 0;
            // The third figure is looked for too: with it the run is no number.
            for (; end < length && end < at + 3 && isFigure(bytes[end]); end++) {
                value = value * 10 + bytes[end] - '0';
            }
            if (end == at || end == at + 3) {
                return isFaulty(CANNOT_STAND);
            }
            if (value < least || value > most || value == unlike) {
                return isFaulty(NOT_AS_TOLD);
            }
            at = end;
            return true;
        }

        private int letter() {
            return at < length ? bytes[at] : THE_END;
        }

        /** Answers false, for the reading to end with. */
        private boolean isFaulty(int number) {
            fault = number;
            return false;
        }

        private static boolean isFigure(int letter) {
            return letter >= '0' && letter <= '9';
        }

        /** The kind of hint that a letter begins; HINT, if none. */
        private static int sortOf(int letter) {
            switch (letter) {
                case 's': return SILENT;
                case 'g': return SUNG;
                case 'w': return WORN;
                case 'm': return MISTAKEN;
                case 'd': return DOUBLE;
                default: return HINT;
            }
        }
    }

    /** A castle as it stands on one evening: all that an image keeps. */
    private static final class Castle {
        boolean stands;
        int question, wrong, limit;
        int hints, guests;
        final int[] sort = new int[MOST_HINTS], from = new int[MOST_HINTS], to = new int[MOST_HINTS];
        final int[] shown = new int[MOST_HINTS];
        final int[] mind = new int[MOST_GUESTS], fear = new int[MOST_GUESTS], bold = new int[MOST_GUESTS];
        final int[] asked = new int[MOST_GUESTS];
        int here = NOBODY;
        int been;
        int tonight;
        int worse;
        boolean healed;

        Castle() {
            for (int g = 0; g < MOST_GUESTS; g++) {
                asked[g] = NONE;
            }
        }

        void become(Castle other) {
            stands = other.stands;
            question = other.question;
            wrong = other.wrong;
            limit = other.limit;
            hints = other.hints;
            guests = other.guests;
            here = other.here;
            been = other.been;
            tonight = other.tonight;
            worse = other.worse;
            healed = other.healed;
            System.arraycopy(other.sort, 0, sort, 0, MOST_HINTS);
            System.arraycopy(other.from, 0, from, 0, MOST_HINTS);
            System.arraycopy(other.to, 0, to, 0, MOST_HINTS);
            System.arraycopy(other.shown, 0, shown, 0, MOST_HINTS);
            System.arraycopy(other.mind, 0, mind, 0, MOST_GUESTS);
            System.arraycopy(other.fear, 0, fear, 0, MOST_GUESTS);
            System.arraycopy(other.bold, 0, bold, 0, MOST_GUESTS);
            System.arraycopy(other.asked, 0, asked, 0, MOST_GUESTS);
        }

        boolean isHint(int h) {
            return isBelow(h, hints);
        }

        boolean isGuest(int g) {
            return isBelow(g, guests);
        }

        int stateOf(int g) {
            if (has(been, g)) {
                return BEEN;
            }
            return here == g ? HERE : TO_COME;
        }

        boolean dares(int g) {
            return bold[g] >= fear[g];
        }

        void receive(int g) {
            here = g;
        }

        void dismiss() {
            here = NOBODY;
        }

        void reveal(int h) {
            mind[here] = ledFrom(mind[here], h, shown[h]);
            shown[h]++;
            tonight |= 1 << h;
        }

        void conceal(int h, int thoughtBefore) {
            if (isGuest(here)) {
                mind[here] = thoughtBefore;
            }
            shown[h]--;
            tonight &= ~(1 << h);
        }

        /** Nothing counts as shown tonight when nobody is here, so tonight is emptied as the guest leaves. */
        void hear(int g) {
            int thought = mind[g];
            if (dares(g) && (thought == question || thought == wrong)) {
                asked[g] = thought;
                healed = thought == question;
                worse += thought == wrong ? 1 : 0;
            }
            been |= 1 << g;
            here = NOBODY;
            tonight = 0;
        }

        void unhear(int g, int tonightBefore) {
            // Nobody is invited while the king is healed: he was sick before this guest spoke.
            healed = false;
            worse -= asked[g] == wrong ? 1 : 0;
            asked[g] = NONE;
            been &= ~(1 << g);
            here = g;
            tonight = tonightBefore;
        }

        /** The thoughts (bits) from which a hint leads to TO, if it was shown so often before. */
        int forth(int h, int before) {
            switch (sort[h]) {
                case SUNG: return 1 << from[h] | 1 << from[h] >> 1;
                case WORN: return before < WORN_OUT ? 1 << from[h] : 0;
                case MISTAKEN: return 0;
                default: return 1 << from[h];
            }
        }

        /** The thoughts (bits) from which a hint leads to FROM. */
        int back(int h) {
            return sort[h] == MISTAKEN || sort[h] == DOUBLE ? 1 << to[h] : 0;
        }

        int ledFrom(int thought, int h, int before) {
            if (has(forth(h, before), thought)) {
                return to[h];
            }
            return has(back(h), thought) ? from[h] : thought;
        }

        int allHints() {
            return (1 << hints) - 1;
        }

        int hintsAhead(int g) {
            return here == g ? allHints() & ~tonight : allHints();
        }

        int leftAhead(int g) {
            return here == g ? limit - Integer.bitCount(tonight) : limit;
        }

        /** The thoughts of those who are to come, as bits. */
        int thoughtsToCome() {
            int thoughts = 0;
            for (int g = 0; g < guests; g++) {
                if (stateOf(g) == TO_COME) {
                    thoughts |= 1 << mind[g];
                }
            }
            return thoughts;
        }

        /** How many of those who are to come think of one of these. */
        int toComeWith(int thoughts) {
            int many = 0;
            for (int g = 0; g < guests; g++) {
                if (stateOf(g) == TO_COME && has(thoughts, mind[g])) {
                    many++;
                }
            }
            return many;
        }
    }

    /** The latest acts, in a ring: with one more than it holds the oldest is forgotten. */
    private static final class Acts {
        final int[] what = new int[MOST_ACTS];
        final int[] who = new int[MOST_ACTS];
        final int[] before = new int[MOST_ACTS];
        int kept;
        private int first;

        void keep(int act, int subject, int wasBefore) {
            int place = (first + kept) % MOST_ACTS;
            what[place] = act;
            who[place] = subject;
            before[place] = wasBefore;
            if (kept < MOST_ACTS) {
                kept++;
            } else {
                first = (first + 1) % MOST_ACTS;
            }
        }

        /** The place of the latest act, which is kept no longer; there must be one. */
        int takeLatest() {
            kept--;
            return (first + kept) % MOST_ACTS;
        }

        void forgetAll() {
            kept = 0;
        }
    }

    /**
     * What hints would do. A shortest way between two thoughts comes to none of them twice, so it takes
     * no hint twice either: it is enough to look at thoughts, without the rows of hints.
     */
    private static final class Foretold {
        /** near[k]: the thoughts (bits) from which k hints, or fewer, lead to the question. */
        private final int[] near = new int[MOST_LIMIT + 1];
        private int allowed;

        /** Fills near up to LIMIT, with ways of these hints alone. */
        void measure(Castle castle, int hints, boolean safe) {
            int shunned = safe ? 1 << castle.wrong : 0;
            allowed = hints;
            near[0] = 1 << castle.question;
            for (int k = 1; k <= castle.limit && k < near.length; k++) {
                near[k] = leadingInto(castle, near[k - 1]) & ~shunned;
            }
        }

        private int leadingInto(Castle castle, int goal) {
            int thoughts = goal;
            for (int h = 0; h < castle.hints; h++) {
                if (has(allowed, h)) {
                    thoughts |= has(goal, castle.to[h]) ? castle.forth(h, castle.shown[h]) : 0;
                    thoughts |= has(goal, castle.from[h]) ? castle.back(h) : 0;
                }
            }
            return thoughts;
        }

        int fewestFrom(int thought, int most) {
            for (int k = 0; k <= most && k < near.length; k++) {
                if (has(near[k], thought)) {
                    return k;
                }
            }
            return NONE;
        }

        int hintOfRoute(Castle castle, int guest, int fewest, int k) {
            int thought = castle.mind[guest];
            int hint = NONE;
            for (int step = 0; step <= k && step < fewest; step++) {
                hint = firstNearer(castle, thought, fewest - step - 1);
                if (hint == NONE) {
                    return NONE;
                }
                thought = castle.ledFrom(thought, hint, castle.shown[hint]);
            }
            return hint;
        }

        private int firstNearer(Castle castle, int thought, int left) {
            for (int h = 0; h < castle.hints; h++) {
                if (has(allowed, h) && has(near[left], castle.ledFrom(thought, h, castle.shown[h]))) {
                    return h;
                }
            }
            return NONE;
        }

        static int thoughtsWithin(Castle castle, int thought, int hints, int most) {
            int thoughts = 1 << thought;
            for (int k = 0; k < most; k++) {
                int further = thoughts;
                for (int h = 0; h < castle.hints; h++) {
                    if (has(hints, h)) {
                        further |= (thoughts & castle.forth(h, castle.shown[h])) != 0 ? 1 << castle.to[h] : 0;
                        further |= (thoughts & castle.back(h)) != 0 ? 1 << castle.from[h] : 0;
                    }
                }
                thoughts = further;
            }
            return thoughts;
        }

        /** How many rows of n unlike hints lead to the question; n is 4 at most, and so is the depth. */
        private static int rowsToQuestion(Castle castle, int thought, int hints, int n) {
            if (n <= 0) {
                return thought == castle.question ? 1 : 0;
            }
            int many = 0;
            for (int h = 0; h < castle.hints; h++) {
                if (has(hints, h)) {
                    int then = castle.ledFrom(thought, h, castle.shown[h]);
                    many += rowsToQuestion(castle, then, hints & ~(1 << h), n - 1);
                }
            }
            return many;
        }

        int bestOf(Castle castle, boolean who) {
            int best = NONE;
            int itsFewest = NONE;
            measure(castle, castle.allHints(), false);
            for (int g = 0; g < castle.guests; g++) {
                int fewest = fewestFrom(castle.mind[g], castle.limit);
                boolean mayAsk = castle.stateOf(g) == TO_COME && castle.dares(g) && fewest != NONE;
                if (mayAsk && (best == NONE || fewest < itsFewest)) {
                    best = g;
                    itsFewest = fewest;
                }
            }
            return who ? best : itsFewest;
        }

        /** Hints, as bits; the least of several, since they are gone through from the least on. */
        int fewestForAll(Castle castle) {
            int wanted = castle.thoughtsToCome();
            int best = NONE;
            if (!haveRoute(castle, wanted, castle.allHints())) {
                return NONE;
            }
            for (int hints = 0; hints <= castle.allHints(); hints++) {
                boolean fewer = best == NONE || Integer.bitCount(hints) < Integer.bitCount(best);
                if (fewer && haveRoute(castle, wanted, hints)) {
                    best = hints;
                }
            }
            return best;
        }

        private boolean haveRoute(Castle castle, int thoughts, int hints) {
            return (thoughts & ~thoughtsWithRoute(castle, hints)) == 0;
        }

        private int thoughtsWithRoute(Castle castle, int hints) {
            measure(castle, hints, false);
            return isBelow(castle.limit, near.length) ? near[castle.limit] : 0;
        }

        int mostMissed(Castle castle, boolean which) {
            int worst = NONE;
            int haveThen = NONE;
            for (int h = 0; h < castle.hints; h++) {
                int have = castle.toComeWith(thoughtsWithRoute(castle, castle.allHints() & ~(1 << h)));
                if (worst == NONE || have < haveThen) {
                    worst = h;
                    haveThen = have;
                }
            }
            return which ? worst : haveThen;
        }

        static int wouldAskButFear(Castle castle, Rows rows, int row, int i, int n) {
            int guests = 0;
            for (int g = 0; g < castle.guests; g++) {
                if (castle.stateOf(g) == TO_COME && !castle.dares(g)
                        && afterRow(castle, castle.mind[g], rows, row, i, n) == castle.question) {
                    guests |= 1 << g;
                }
            }
            return guests;
        }

        private static int afterRow(Castle castle, int thought, Rows rows, int row, int i, int n) {
            int then = thought;
            for (int j = 0; j < n; j++) {
                int hint = rows.itemOf(row, i + j);
                then = castle.ledFrom(then, hint, castle.shown[hint] + timesAhead(rows, row, i, j));
            }
            return then;
        }

        /** How often the hint at place i + j stands already in the j places from i on. */
        private static int timesAhead(Rows rows, int row, int i, int j) {
            int times = 0;
            for (int earlier = 0; earlier < j; earlier++) {
                times += rows.itemOf(row, i + earlier) == rows.itemOf(row, i + j) ? 1 : 0;
            }
            return times;
        }
    }

    /** The bodies that answer an ask, by their numbers, and the trace that they leave. */
    private static final class Asks {
        /** More than any ask needs: five bodies at most are open at once. */
        private static final int DEEPEST = 8;
        final int[] begun = new int[MOST_TRACE];
        int length;

        int answer(Castle castle, int hint, int what) {
            int kind = castle.sort[hint];
            length = 0;
            return given(this, castle, what == 0 ? sizeBody(kind) : markBody(kind), hint, 0);
        }

        private static int sizeBody(int kind) {
            switch (kind) {
                case SILENT: return 11;
                case SUNG: return 12;
                case WORN: return 11;
                case MISTAKEN: return 13;
                case DOUBLE: return 14;
                default: return 10;
            }
        }

        private static int markBody(int kind) {
            switch (kind) {
                case SILENT: return 21;
                case SUNG: return 24;
                case WORN: return 22;
                case MISTAKEN: return 23;
                case DOUBLE: return 23;
                default: return 20;
            }
        }

        private void leave(int body) {
            if (length < MOST_TRACE) {
                begun[length] = body;
                length++;
            }
        }

        /** What a body gives; SIZE and MARK within it begin with the body of the hint's own kind. */
        private static int given(Asks asks, Castle castle, int body, int hint, int depth) {
            if (depth >= DEEPEST) {
                return 0;
            }
            int kind = castle.sort[hint];
            asks.leave(body);
            switch (body) {
                case 10: return castle.shown[hint];
                case 11: return given(asks, castle, 10, hint, depth + 1)
                        + given(asks, castle, markBody(kind), hint, depth + 1);
                case 12: return -given(asks, castle, 11, hint, depth + 1);
                case 13: return given(asks, castle, 10, hint, depth + 1) - 100;
                case 14: return 2 * given(asks, castle, 13, hint, depth + 1);
                case 20: return hint;
                case 21: return given(asks, castle, 20, hint, depth + 1) + castle.from[hint];
                case 22: return given(asks, castle, 21, hint, depth + 1) - 1000;
                case 23: return given(asks, castle, 20, hint, depth + 1)
                        - given(asks, castle, sizeBody(kind), hint, depth + 1);
                case 24: return 2 * given(asks, castle, 21, hint, depth + 1);
                default: return 0;
            }
        }
    }
}
