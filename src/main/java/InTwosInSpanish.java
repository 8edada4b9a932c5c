/**
 * A class of people who talk by twos in Spanish.
 *
 * <p>The document's words in capitals are used in the comments as they are. All rows are made once, in the
 * constructor: no call makes an object.
 */
public final class InTwosInSpanish {
    public static final int NONE = -1;

    private static final int BAD = -2;
    private static final int OTHER = -3;
    private static final int NOTHING = -4;
    private static final int STUCK = -5;
    private static final int FULL = -6;
    private static final int REFUSAL_SORTS = 5;
    private static final int FIRST_REFUSAL_STATUS = 12;
    private static final int FAULT_BASE = -20;

    private static final int PERSON = 0;
    private static final int SHY = 1;
    private static final int QUICK = 2;
    private static final int SILENT = 3;
    private static final int BORED = 4;
    private static final int GUEST = 5;
    private static final int KIND_COUNT = 6;
    /** Under which KIND each KIND stands. */
    private static final int[] OVER = {NONE, PERSON, PERSON, SHY, QUICK, PERSON};

    private static final int MOST_PEOPLE = 8;
    private static final int MOST_A = 9;
    private static final int MOST_WORDS = 99;
    private static final int MOST_MINUTES = 9;
    private static final int MOST_ABSENT = 12;
    private static final int DRAW_BELOW = 12;
    private static final int MOST_ASKED = 999;
    private static final int MOST_TALKS = 60;
    private static final int MOST_DRAWN = 40;
    private static final int MOST_PAIRS_TOLD = 20;

    private static final int SHELF_COUNT = 8;
    private static final int SORT_COUNT = 5;
    private static final int MOST_ELEMENTS = 40;
    private static final int FIRST_PERSON_HELD = 10;
    private static final int TAPE_ROOM = 250;

    private final People now = new People();
    private final People draft = new People();
    private final People kept = new People();
    private final Parting parting = new Parting();
    private final Tape tape = new Tape();
    private final Shelf[] shelves = new Shelf[SHELF_COUNT];
    private final int[] refusals = new int[REFUSAL_SORTS];
    private boolean anyKept;

    public InTwosInSpanish() {
        for (int s = 0; s < SHELF_COUNT; s++) {
            shelves[s] = new Shelf();
        }
    }

    // ---- SHELVES ----

    public int row(int s, int sort, int n) {
        if (!isShelf(s) || !isWithin(sort, 0, SORT_COUNT - 1) || !isWithin(n, 0, MOST_ELEMENTS)) {
            return refuse(BAD);
        }
        shelves[s].becomeRow(sort, n);
        return 1;
    }

    public int set(int s, int i, long v) {
        int no = whyNoRow(s);
        if (no != 0) {
            return refuse(no);
        }
        if (!isWithin(i, 0, shelves[s].length - 1)) {
            return refuse(BAD);
        }
        shelves[s].put(i, v);
        return 1;
    }

    public int copy(int p, int q, int i, int j, int n) {
        int no = whyNoCopy(p, q);
        if (no != 0) {
            return refuse(no);
        }
        if (!shelves[p].hasPlaces(i, n) || !shelves[q].hasPlaces(j, n)) {
            return refuse(BAD);
        }
        System.arraycopy(shelves[p].elements, i, shelves[q].elements, j, n);
        return n;
    }

    public long element(int s, int i) {
        if (!isShelf(s) || !shelves[s].isRow() || !isWithin(i, 0, shelves[s].length - 1)) {
            return 0;
        }
        return shelves[s].elements[i];
    }

    public int holds(int s) {
        return isShelf(s) ? shelves[s].held : NONE;
    }

    public int show(int s, int person) {
        if (!isShelf(s) || !isPersonOrNone(person)) {
            return refuse(BAD);
        }
        shelves[s].held = person == NONE ? NONE : FIRST_PERSON_HELD + person;
        return 1;
    }

    public int says(int s, int kind) {
        if (!isShelf(s) || !isKind(kind)) {
            return refuse(BAD);
        }
        if (shelves[s].isEmpty()) {
            return refuse(NOTHING);
        }
        int person = shelves[s].personHeld();
        if (!now.has(person) || !isUnder(now.kind[person], kind)) {
            return refuse(OTHER);
        }
        return kind == PERSON ? now.a[person] : now.spoken(person, 0);
    }

    // ---- THE CLASS ----

    public int person(int kind, int a, int words) {
        if (!isKind(kind) || !isWithin(a, 0, MOST_A) || !isWithin(words, 0, MOST_WORDS)) {
            return refuse(BAD);
        }
        if (now.isFull()) {
            return refuse(FULL);
        }
        return now.add(kind, a, words);
    }

    public int words(int person, int v) {
        if (!now.has(person) || !isWithin(v, 0, MOST_WORDS)) {
            return refuse(BAD);
        }
        int before = now.words[person];
        now.words[person] = v;
        return before;
    }

    public int wrong(int person, boolean is) {
        if (!now.has(person)) {
            return refuse(BAD);
        }
        if (is && now.kind[person] == GUEST) {
            return refuse(STUCK);
        }
        int before = asNumber(now.isWrong(person));
        now.makeWrong(person, is);
        return before;
    }

    public int tell(int what, int v) {
        int before;
        if (what == 0 && isWithin(v, 1, MOST_MINUTES)) {
            before = now.minutes;
            now.minutes = v;
        } else if (what == 1 && isWithin(v, 0, MOST_ABSENT)) {
            before = now.absent;
            now.absent = v;
        } else {
            before = refuse(BAD);
        }
        return before;
    }

    public int feed(int letter) {
        if (!isWithin(letter, 0, 255)) {
            return refuse(BAD);
        }
        if (tape.size >= TAPE_ROOM) {
            return refuse(FULL);
        }
        tape.append(letter);
        return tape.size;
    }

    public int wipe() {
        int before = tape.size;
        tape.size = 0;
        return before;
    }

    public int group() {
        draft.takeFrom(now);
        int statements = tape.readInto(draft);
        tape.size = 0;
        if (statements == NONE) {
            refuse(BAD);
            return FAULT_BASE - tape.at;
        }
        now.takeFrom(draft);
        return statements;
    }

    public int personOf(int person, int what) {
        if (!now.has(person)) {
            return refuse(BAD);
        }
        switch (what) {
            case 0:
                return now.kind[person];
            case 1:
                return now.a[person];
            case 2:
                return now.words[person];
            case 3:
                return asNumber(now.isWrong(person));
            case 4:
                return now.metBits[person];
            default:
                return refuse(BAD);
        }
    }

    // ---- A TALK of two ----

    public int speaks(int person, int other) {
        return now.areTwo(person, other) ? now.spoken(person, other) : refuse(BAD);
    }

    public int learns(int person, int other) {
        return now.areTwo(person, other) ? now.gained(person, other) : refuse(BAD);
    }

    public int after(int person, int other) {
        return now.areTwo(person, other) ? asNumber(now.isWrongBehind(person, other)) : refuse(BAD);
    }

    public int share(int person, int other) {
        if (!now.areTwo(person, other)) {
            return refuse(BAD);
        }
        int own = now.spoken(person, other);
        int both = own + now.spoken(other, person);
        return both > 0 ? 1000 * own / both : refuse(STUCK);
    }

    public int harm(int person) {
        if (!now.has(person)) {
            return refuse(BAD);
        }
        int bits = 0;
        for (int y = 0; y < now.count; y++) {
            if (y != person && now.isWrongBehind(person, y)) {
                bits |= 1 << y;
            }
        }
        return bits;
    }

    public int dumb(int person) {
        if (!now.has(person)) {
            return refuse(BAD);
        }
        int bits = 0;
        for (int y = 0; y < now.count; y++) {
            if (y != person && now.spoken(person, y) == 0) {
                bits |= 1 << y;
            }
        }
        return bits;
    }

    public int kinds(int person, int other, int n) {
        if (!now.areTwo(person, other) || !isWithin(n, 0, MOST_ASKED)) {
            return refuse(BAD);
        }
        int bits = 0;
        for (int k = 0; k < KIND_COUNT; k++) {
            if (now.spokenAs(k, person, now.words[person], now.words[other]) == n) {
                bits |= 1 << k;
            }
        }
        return bits;
    }

    public int spans(int person, int other, int n, int what) {
        if (!now.areTwo(person, other) || !isWithin(n, 0, MOST_ASKED) || !isWithin(what, 0, 1)) {
            return refuse(BAD);
        }
        int found = NONE;
        for (int w = 0; w <= MOST_WORDS; w++) {
            boolean fits = now.spokenAs(now.kind[person], person, w, now.words[other]) == n;
            if (fits && (what == 1 || found == NONE)) {
                found = w;
            }
        }
        return found;
    }

    public int minutesFor(int person, int other, int v) {
        if (!now.areTwo(person, other) || !isWithin(v, 0, MOST_ASKED)) {
            return refuse(BAD);
        }
        draft.takeFrom(now);
        for (int m = 1; m <= MOST_MINUTES; m++) {
            draft.minutes = m;
            if (draft.gained(person, other) >= v) {
                return m;
            }
        }
        return NONE;
    }

    public int often(int person, int other, int v) {
        if (!now.areTwo(person, other) || !isWithin(v, 0, MOST_WORDS)) {
            return refuse(BAD);
        }
        draft.takeFrom(now);
        for (int talks = 0; talks <= MOST_TALKS; talks++) {
            if (draft.words[person] >= v) {
                return talks;
            }
            draft.meet(person, other);
        }
        return NONE;
    }

    public int best(int person, int what) {
        if (!now.has(person) || !isWithin(what, 0, 2)) {
            return refuse(BAD);
        }
        int found = NONE;
        int most = 0;
        for (int y = 0; y < now.count; y++) {
            if (y == person) {
                continue;
            }
            int worth = worthOf(person, y, what);
            if (found == NONE || worth > most) {
                found = y;
                most = worth;
            }
        }
        return found;
    }

    public int likes(int person, int i) {
        if (!now.has(person) || !isWithin(i, 0, now.count - 2)) {
            return refuse(BAD);
        }
        int found = NONE;
        for (int y = 0; y < now.count; y++) {
            if (y != person && howManyLikedMore(person, y) == i) {
                found = y;
            }
        }
        return found;
    }

    public int bestPair(int what) {
        if (!isWithin(what, 0, 1)) {
            return refuse(BAD);
        }
        int found = NONE;
        int most = 0;
        for (int x = 0; x < now.count; x++) {
            for (int y = x + 1; y < now.count; y++) {
                int both = now.gainedByBoth(x, y);
                int worth = what == 0 ? both : -both;
                if (found == NONE || worth > most) {
                    found = 10 * x + y;
                    most = worth;
                }
            }
        }
        return found;
    }

    // ---- ROUNDS, as all are now ----

    public int rounds() {
        return now.roundCount();
    }

    public int partner(int person, int r) {
        return now.has(person) && now.isRound(r) ? now.mateIn(r, person) : refuse(BAD);
    }

    public int round(int person, int other) {
        if (!now.areTwo(person, other)) {
            return refuse(BAD);
        }
        int found = NONE;
        for (int r = 0; r < now.roundCount(); r++) {
            if (now.mateIn(r, person) == other) {
                found = r;
            }
        }
        return found;
    }

    /** Every pair counts, also one without a WRONG one: where WRONG ones SPEAK nothing, the first of all is due. */
    public int listen(int r) {
        if (!now.isRound(r)) {
            return refuse(BAD);
        }
        int found = NONE;
        int most = 0;
        boolean anyWrong = false;
        for (int x = 0; x < now.count; x++) {
            int y = now.mateIn(r, x);
            if (y < x) {
                continue;
            }
            anyWrong = anyWrong || now.isWrong(x) || now.isWrong(y);
            int spoken = spokenWrongly(x, y) + spokenWrongly(y, x);
            if (found == NONE || spoken > most) {
                found = x;
                most = spoken;
            }
        }
        return anyWrong ? found : NONE;
    }

    public int stay(int person, int v) {
        if (!now.has(person) || !isWithin(v, 0, MOST_ASKED)) {
            return refuse(BAD);
        }
        int n = 0;
        for (int r = 0; r < now.roundCount(); r++) {
            if (now.gainedIn(r, person) >= v) {
                n++;
            }
        }
        return n;
    }

    public int silent(int r) {
        if (!now.isRound(r)) {
            return refuse(BAD);
        }
        int n = 0;
        for (int x = 0; x < now.count; x++) {
            int y = now.mateIn(r, x);
            if (y != NONE && now.spoken(x, y) == 0) {
                n++;
            }
        }
        return n;
    }

    public int bestRound(int what) {
        if (!isWithin(what, 0, 1)) {
            return refuse(BAD);
        }
        int found = NONE;
        int most = 0;
        for (int r = 0; r < now.roundCount(); r++) {
            int gained = now.gainedByAllIn(r);
            int worth = what == 0 ? gained : -gained;
            if (found == NONE || worth > most) {
                found = r;
                most = worth;
            }
        }
        return found == NONE ? refuse(STUCK) : found;
    }

    public int gap(int r) {
        if (!now.isRound(r)) {
            return refuse(BAD);
        }
        int greatest = 0;
        for (int x = 0; x < now.count; x++) {
            int y = now.mateIn(r, x);
            if (y != NONE) {
                greatest = Math.max(greatest, now.words[x] - now.words[y]);
            }
        }
        return greatest;
    }

    public int noise(int r) {
        if (!now.isRound(r)) {
            return refuse(BAD);
        }
        int sum = 0;
        for (int x = 0; x < now.count; x++) {
            sum += now.spokenIn(r, x);
        }
        return sum;
    }

    public int all(int person, int what) {
        if (!now.has(person) || !isWithin(what, 0, 1)) {
            return refuse(BAD);
        }
        return what == 0 ? spokenInAll(person) : gainedInAll(person);
    }

    public int fair() {
        int most = 0;
        int least = 0;
        for (int x = 0; x < now.count; x++) {
            int gained = gainedInAll(x);
            most = x == 0 ? gained : Math.max(most, gained);
            least = x == 0 ? gained : Math.min(least, gained);
        }
        return most - least;
    }

    public int sitsOut(int r) {
        if (!now.isRound(r)) {
            return refuse(BAD);
        }
        int found = NONE;
        for (int x = 0; x < now.count; x++) {
            if (now.mateIn(r, x) == NONE) {
                found = x;
            }
        }
        return found;
    }

    public int turned(int r, boolean wrong) {
        if (!now.isRound(r)) {
            return refuse(BAD);
        }
        draft.takeFrom(now);
        draft.playRound(r);
        return wrong ? draft.wrongBits & ~now.wrongBits : now.wrongBits & ~draft.wrongBits;
    }

    // ---- ROUNDS one behind the other ----

    public int ahead(int person, int r) {
        if (!now.has(person) || !isWithin(r, 0, now.roundCount())) {
            return refuse(BAD);
        }
        draft.takeFrom(now);
        draft.playRounds(r);
        return draft.words[person];
    }

    public int spread(int r) {
        if (!isWithin(r, 0, now.roundCount())) {
            return refuse(BAD);
        }
        draft.takeFrom(now);
        draft.playRounds(r);
        return draft.wrongBits;
    }

    /*
     * Whether one is WRONG at the end always comes from how just one of the PEOPLE was at first, and who SPEAKS more
     * never hangs on who is WRONG. So each WRONG one from whom, were he WRONG alone, something is left must be put
     * right, and these are enough: there is just one fewest set, and always one.
     */
    public int cured(int what) {
        if (!isWithin(what, 0, 1)) {
            return refuse(BAD);
        }
        int set = 0;
        for (int x = 0; x < now.count; x++) {
            if (now.isWrong(x)) {
                draft.takeFrom(now);
                draft.wrongBits = 1 << x;
                draft.playRounds(draft.roundCount());
                set |= draft.wrongBits != 0 ? 1 << x : 0;
            }
        }
        return what == 0 ? Integer.bitCount(set) : set;
    }

    public int lesson(int r, int what) {
        if (what == 0 && now.isRound(r)) {
            return now.gainedByAllIn(r);
        }
        if (what == 1) {
            draft.takeFrom(now);
            return draft.playRounds(draft.roundCount());
        }
        return refuse(BAD);
    }

    public int until(int v) {
        if (!isWithin(v, 0, MOST_ASKED)) {
            return refuse(BAD);
        }
        draft.takeFrom(now);
        for (int r = 0; r <= draft.roundCount(); r++) {
            if (draft.allWords() >= v) {
                return r;
            }
            if (draft.isRound(r)) {
                draft.playRound(r);
            }
        }
        return NONE;
    }

    // ---- TONIGHT ----

    public int tonight(int person) {
        if (!isPersonOrNone(person)) {
            return refuse(BAD);
        }
        parting.weigh(now, false);
        return mostOrMate(person);
    }

    public int fresh(int person) {
        if (!isPersonOrNone(person)) {
            return refuse(BAD);
        }
        parting.weigh(now, true);
        return mostOrMate(person);
    }

    public int rather() {
        parting.weigh(now, false);
        parting.choose(now.everybody());
        int n = 0;
        for (int x = 0; x < now.count; x++) {
            for (int y = x + 1; y < now.count; y++) {
                if (now.gained(x, y) > gainedTonight(x) && now.gained(y, x) > gainedTonight(y)) {
                    n++;
                }
            }
        }
        return n;
    }

    public int hold(int v) {
        if (!isWithin(v, 0, MOST_ASKED)) {
            return refuse(BAD);
        }
        draft.takeFrom(now);
        for (int m = 1; m <= MOST_MINUTES; m++) {
            draft.minutes = m;
            parting.weigh(draft, false);
            if (parting.mostOf(draft.everybody()) >= v) {
                return m;
            }
        }
        return NONE;
    }

    public int gain(int r) {
        if (!now.isRound(r)) {
            return refuse(BAD);
        }
        parting.weigh(now, false);
        return parting.mostOf(now.everybody()) - now.gainedByAllIn(r);
    }

    public int bestAway() {
        parting.weigh(now, false);
        int found = NONE;
        int most = 0;
        for (int x = 0; x < now.count; x++) {
            for (int y = x + 1; y < now.count; y++) {
                int gained = parting.mostOf(now.everybody() & ~(1 << x | 1 << y));
                if (found == NONE || gained > most) {
                    found = 10 * x + y;
                    most = gained;
                }
            }
        }
        return found;
    }

    // ---- Counts ----

    public int first(int what) {
        if (!isWithin(what, 0, 1)) {
            return refuse(BAD);
        }
        int found = NONE;
        int most = 0;
        for (int x = 0; x < now.count; x++) {
            int worth = what == 0 ? now.words[x] : -now.words[x];
            if (found == NONE || worth > most) {
                found = x;
                most = worth;
            }
        }
        return found == NONE ? refuse(STUCK) : found;
    }

    public int unmet(int person) {
        if (!now.has(person)) {
            return refuse(BAD);
        }
        return now.everybody() & ~now.metBits[person] & ~(1 << person);
    }

    public int met() {
        int n = 0;
        for (int x = 0; x < now.count; x++) {
            for (int y = x + 1; y < now.count; y++) {
                n += asNumber(now.haveMet(x, y));
            }
        }
        return n;
    }

    public int mixed(int kind, int other) {
        if (!isKind(kind) || !isKind(other)) {
            return refuse(BAD);
        }
        int n = now.countOfKind(kind);
        return kind == other ? n * (n - 1) / 2 : n * now.countOfKind(other);
    }

    public int ofKind(int kind) {
        return isKind(kind) ? now.countOfKind(kind) : refuse(BAD);
    }

    public int status(int what) {
        switch (what) {
            case 0:
                return now.count;
            case 1:
                return now.minutes;
            case 2:
                return now.absent;
            case 3:
                return now.evenings;
            case 4:
                return now.allWords();
            case 5:
                return Integer.bitCount(now.wrongBits);
            case 6:
                return tape.size;
            case 7:
                return now.lot;
            case 8:
                return shelvesInUse();
            default:
                int sort = what - FIRST_REFUSAL_STATUS;
                return isWithin(what, FIRST_REFUSAL_STATUS, FIRST_REFUSAL_STATUS + REFUSAL_SORTS - 1)
                        ? refusals[sort] : NONE;
        }
    }

    // ---- Told EVENINGS ----

    public int judge(int s, int n) {
        int no = whyNoPairs(s, n);
        return no != 0 ? refuse(no) : firstWrongPair(shelves[s], n);
    }

    public int learned(int s, int n) {
        int no = whyNoPairs(s, n);
        if (no != 0) {
            return refuse(no);
        }
        if (firstWrongPair(shelves[s], n) != NONE) {
            return refuse(STUCK);
        }
        draft.takeFrom(now);
        int sum = 0;
        for (int k = 0; k < n; k++) {
            sum += draft.meet((int) shelves[s].elements[2 * k], (int) shelves[s].elements[2 * k + 1]);
        }
        return sum;
    }

    // ---- IN TRUTH ----

    public int talk(int person, int other) {
        return now.areTwo(person, other) ? now.meet(person, other) : refuse(BAD);
    }

    public int evening(int r) {
        if (!isWithin(r, 1, now.roundCount())) {
            return refuse(BAD);
        }
        now.evenings++;
        return now.playRounds(r);
    }

    public int drawn(int n) {
        if (!isWithin(n, 1, MOST_DRAWN)) {
            return refuse(BAD);
        }
        int sum = 0;
        for (int e = 0; e < n; e++) {
            now.evenings++;
            sum += now.meetByTwos(now.drawWhoIsThere());
        }
        return sum;
    }

    public int seed(int v) {
        int before = now.lot;
        now.lot = v;
        return before;
    }

    public int image() {
        kept.takeFrom(now);
        anyKept = true;
        return 1;
    }

    public int back() {
        if (!anyKept) {
            return refuse(STUCK);
        }
        now.takeFrom(kept);
        for (int s = 0; s < SHELF_COUNT; s++) {
            int person = shelves[s].personHeld();
            if (person != NONE && !now.has(person)) {
                shelves[s].held = NONE;
            }
        }
        return 1;
    }

    // ---- What the calls share ----

    private int refuse(int code) {
        int sort = BAD - code;
        if (isWithin(sort, 0, REFUSAL_SORTS - 1)) {
            refusals[sort]++;
        }
        return code;
    }

    private static boolean isWithin(int v, int least, int most) {
        return v >= least && v <= most;
    }

    private static int asNumber(boolean is) {
        return is ? 1 : 0;
    }

    private static boolean isShelf(int s) {
        return isWithin(s, 0, SHELF_COUNT - 1);
    }

    private static boolean isKind(int kind) {
        return isWithin(kind, 0, KIND_COUNT - 1);
    }

    private boolean isPersonOrNone(int person) {
        return person == NONE || now.has(person);
    }

    private static boolean isUnder(int kind, int above) {
        int k = kind;
        for (int step = 0; step < KIND_COUNT && isKind(k); step++) {
            if (k == above) {
                return true;
            }
            k = OVER[k];
        }
        return false;
    }

    /** The refusal of a call that wants a ROW in SHELF s; 0: there is one. */
    private int whyNoRow(int s) {
        if (!isShelf(s)) {
            return BAD;
        }
        if (shelves[s].isEmpty()) {
            return NOTHING;
        }
        return shelves[s].isRow() ? 0 : OTHER;
    }

    /** OTHER goes ahead of NOTHING, so both SHELVES are looked at for it first. */
    private int whyNoCopy(int p, int q) {
        if (!isShelf(p) || !isShelf(q)) {
            return BAD;
        }
        Shelf from = shelves[p];
        Shelf to = shelves[q];
        boolean bothFilled = !from.isEmpty() && !to.isEmpty();
        if (from.personHeld() != NONE || to.personHeld() != NONE || bothFilled && from.held != to.held) {
            return OTHER;
        }
        return bothFilled ? 0 : NOTHING;
    }

    private int whyNoPairs(int s, int n) {
        if (!isWithin(n, 0, MOST_PAIRS_TOLD)) {
            return BAD;
        }
        int no = whyNoRow(s);
        if (no != 0) {
            return no;
        }
        return shelves[s].length < 2 * n ? BAD : 0;
    }

    private int shelvesInUse() {
        int n = 0;
        for (int s = 0; s < SHELF_COUNT; s++) {
            n += asNumber(!shelves[s].isEmpty());
        }
        return n;
    }

    private int worthOf(int person, int other, int what) {
        if (what == 2) {
            return now.spoken(person, other);
        }
        int gained = now.gained(person, other);
        return what == 0 ? gained : -gained;
    }

    private int howManyLikedMore(int person, int other) {
        int own = now.gained(person, other);
        int n = 0;
        for (int y = 0; y < now.count; y++) {
            if (y == person || y == other) {
                continue;
            }
            int gained = now.gained(person, y);
            if (gained > own || gained == own && y < other) {
                n++;
            }
        }
        return n;
    }

    private int spokenWrongly(int person, int other) {
        return now.isWrong(person) ? now.spoken(person, other) : 0;
    }

    private int spokenInAll(int person) {
        int sum = 0;
        for (int r = 0; r < now.roundCount(); r++) {
            sum += now.spokenIn(r, person);
        }
        return sum;
    }

    private int gainedInAll(int person) {
        int sum = 0;
        for (int r = 0; r < now.roundCount(); r++) {
            sum += now.gainedIn(r, person);
        }
        return sum;
    }

    private int mostOrMate(int person) {
        if (person == NONE) {
            return parting.mostOf(now.everybody());
        }
        parting.choose(now.everybody());
        return parting.mates[person];
    }

    private int gainedTonight(int person) {
        int mate = parting.mates[person];
        return mate == NONE || mate == person ? 0 : now.gained(person, mate);
    }

    /** Elements may be any longs: they are looked at as such before they are taken for numbers of PEOPLE. */
    private int firstWrongPair(Shelf shelf, int n) {
        int inRound = now.count / 2;
        int talked = 0;
        long told = 0;
        for (int k = 0; k < n; k++) {
            long x = shelf.elements[2 * k];
            long y = shelf.elements[2 * k + 1];
            if (x < 0 || y < 0 || x >= now.count || y >= now.count || x == y || inRound < 1) {
                return k;
            }
            if (k % inRound == 0) {
                talked = 0;
            }
            int two = 1 << (int) x | 1 << (int) y;
            long pair = 1L << (int) (Math.min(x, y) * MOST_PEOPLE + Math.max(x, y));
            if ((talked & two) != 0 || (told & pair) != 0) {
                return k;
            }
            talked |= two;
            told |= pair;
        }
        return NONE;
    }

    /** PEOPLE with all that an image keeps; calls that only ask play on a second one. */
    private static final class People {
        final int[] kind = new int[MOST_PEOPLE];
        final int[] a = new int[MOST_PEOPLE];
        final int[] words = new int[MOST_PEOPLE];
        final int[] metBits = new int[MOST_PEOPLE];
        int wrongBits;
        int count;
        int minutes = 4;
        int absent = 1;
        int evenings;
        /** SEED. */
        int lot = 1;

        void takeFrom(People source) {
            for (int x = 0; x < MOST_PEOPLE; x++) {
                kind[x] = source.kind[x];
                a[x] = source.a[x];
                words[x] = source.words[x];
                metBits[x] = source.metBits[x];
            }
            wrongBits = source.wrongBits;
            count = source.count;
            minutes = source.minutes;
            absent = source.absent;
            evenings = source.evenings;
            lot = source.lot;
        }

        boolean has(int x) {
            return x >= 0 && x < count;
        }

        boolean areTwo(int x, int y) {
            return has(x) && has(y) && x != y;
        }

        boolean isFull() {
            return count >= MOST_PEOPLE;
        }

        int add(int ofKind, int ofA, int ofWords) {
            int x = count;
            kind[x] = ofKind;
            a[x] = ofA;
            words[x] = ofWords;
            metBits[x] = 0;
            makeWrong(x, false);
            count++;
            return x;
        }

        boolean isWrong(int x) {
            return (wrongBits >> x & 1) != 0;
        }

        void makeWrong(int x, boolean is) {
            wrongBits = is ? wrongBits | 1 << x : wrongBits & ~(1 << x);
        }

        boolean haveMet(int x, int y) {
            return (metBits[x] >> y & 1) != 0;
        }

        int everybody() {
            return (1 << count) - 1;
        }

        int allWords() {
            int sum = 0;
            for (int x = 0; x < count; x++) {
                sum += words[x];
            }
            return sum;
        }

        int countOfKind(int k) {
            int n = 0;
            for (int x = 0; x < count; x++) {
                n += asNumber(kind[x] == k);
            }
            return n;
        }

        /** What x would SPEAK, were he of a KIND and had he so many WORDS. */
        int spokenAs(int asKind, int x, int withWords, int othersWords) {
            int plain = minutes * (5 + withWords / 10);
            switch (asKind) {
                case SHY:
                    return plain / 2;
                case SILENT:
                    return othersWords - withWords > 20 + a[x] ? 0 : plain / 2;
                case QUICK:
                    return plain + a[x];
                case BORED:
                    return withWords - othersWords > 10 + a[x] ? (plain + a[x]) / 2 : plain + a[x];
                case GUEST:
                    return minutes * 10;
                default:
                    return plain;
            }
        }

        int spoken(int x, int y) {
            return spokenAs(kind[x], x, words[x], words[y]);
        }

        int gained(int x, int y) {
            if (kind[x] == GUEST) {
                return 0;
            }
            int gained = (spoken(x, y) + spoken(y, x) / 2) / 10;
            return Math.abs(words[x] - words[y]) > 40 ? gained / 2 : gained;
        }

        int gainedByBoth(int x, int y) {
            return gained(x, y) + gained(y, x);
        }

        boolean isWrongBehind(int x, int y) {
            if (isWrong(x) == isWrong(y) || spoken(x, y) >= spoken(y, x)) {
                return isWrong(x);
            }
            return isWrong(y) && kind[x] != GUEST;
        }

        /** A TALK; all is reckoned ahead of the first change, as both were ahead. */
        int meet(int x, int y) {
            int ofX = gained(x, y);
            int ofY = gained(y, x);
            boolean wrongX = isWrongBehind(x, y);
            boolean wrongY = isWrongBehind(y, x);
            makeWrong(x, wrongX);
            makeWrong(y, wrongY);
            words[x] = Math.min(MOST_WORDS, words[x] + ofX);
            words[y] = Math.min(MOST_WORDS, words[y] + ofY);
            metBits[x] |= 1 << y;
            metBits[y] |= 1 << x;
            return ofX + ofY;
        }

        int roundCount() {
            return count == 0 ? 0 : count + count % 2 - 1;
        }

        boolean isRound(int r) {
            return r >= 0 && r < roundCount();
        }

        /** With whom x talks in ROUND r; NONE: he sits out. */
        int mateIn(int r, int x) {
            int last = roundCount();
            if (last < 1) {
                return NONE;
            }
            int y = x == last ? r : Math.floorMod(2 * r - x, last);
            if (y == x) {
                y = last;
            }
            return y < count ? y : NONE;
        }

        int spokenIn(int r, int x) {
            int y = mateIn(r, x);
            return y == NONE ? 0 : spoken(x, y);
        }

        int gainedIn(int r, int x) {
            int y = mateIn(r, x);
            return y == NONE ? 0 : gained(x, y);
        }

        int gainedByAllIn(int r) {
            int sum = 0;
            for (int x = 0; x < count; x++) {
                sum += gainedIn(r, x);
            }
            return sum;
        }

        int playRound(int r) {
            int sum = 0;
            for (int x = 0; x < count; x++) {
                int y = mateIn(r, x);
                if (y > x) {
                    sum += meet(x, y);
                }
            }
            return sum;
        }

        int playRounds(int n) {
            int sum = 0;
            for (int r = 0; r < n && isRound(r); r++) {
                sum += playRound(r);
            }
            return sum;
        }

        /** A DRAW below 12. */
        int draw() {
            lot = lot * 1103515245 + 12345;
            return (lot >>> 16) % DRAW_BELOW;
        }

        int drawWhoIsThere() {
            int there = 0;
            for (int x = 0; x < count; x++) {
                if (draw() >= absent) {
                    there |= 1 << x;
                }
            }
            return there;
        }

        int meetByTwos(int there) {
            int sum = 0;
            int waiting = NONE;
            for (int x = 0; x < count; x++) {
                if ((there >> x & 1) == 0) {
                    continue;
                }
                if (waiting == NONE) {
                    waiting = x;
                } else {
                    sum += meet(waiting, x);
                    waiting = NONE;
                }
            }
            return sum;
        }
    }

    /**
     * PEOPLE parted into twos so that most is LEARNED, for every set of them at once: the least of a set sits out, if
     * the set is odd, or has one of the others, and the rest is a smaller set.
     */
    private static final class Parting {
        final int[] mates = new int[MOST_PEOPLE];
        private final int[][] together = new int[MOST_PEOPLE][MOST_PEOPLE];
        private final int[] most = new int[1 << MOST_PEOPLE];
        private int count;

        void weigh(People people, boolean unmetAlone) {
            count = people.count;
            for (int x = 0; x < count; x++) {
                for (int y = x + 1; y < count; y++) {
                    boolean barred = unmetAlone && people.haveMet(x, y);
                    together[x][y] = barred ? NONE : people.gainedByBoth(x, y);
                }
            }
            most[0] = 0;
            for (int set = 1; set < 1 << count; set++) {
                most[set] = mostByLeast(set);
            }
        }

        /** How much is LEARNED by a set of PEOPLE at most; NONE: they can't be parted. */
        int mostOf(int set) {
            return set >= 0 && set < most.length ? most[set] : NONE;
        }

        /** Partners are tried in their order, the one himself ahead of all behind him: the first row is found. */
        void choose(int set) {
            for (int x = 0; x < MOST_PEOPLE; x++) {
                mates[x] = NONE;
            }
            if (mostOf(set) == NONE) {
                return;
            }
            int rest = set;
            for (int x = 0; x < count; x++) {
                if ((rest >> x & 1) != 0) {
                    int y = mateOfLeast(x, rest);
                    mates[x] = y;
                    mates[y] = x;
                    rest &= ~(1 << x | 1 << y);
                }
            }
        }

        private int mostByLeast(int set) {
            int x = leastOf(set);
            int top = NONE;
            for (int y = x; y < count; y++) {
                top = Math.max(top, mostWith(x, y, set));
            }
            return top;
        }

        private int mateOfLeast(int x, int set) {
            for (int y = x; y < count; y++) {
                if (mostWith(x, y, set) == most[set]) {
                    return y;
                }
            }
            return x;
        }

        /** The most for a set in which x has y (himself: he sits out); NONE: that can't be. */
        private int mostWith(int x, int y, int set) {
            if ((set >> y & 1) == 0) {
                return NONE;
            }
            int rest = most[set & ~(1 << x | 1 << y)];
            if (x == y) {
                return Integer.bitCount(set) % 2 == 1 ? rest : NONE;
            }
            return rest == NONE || together[x][y] == NONE ? NONE : rest + together[x][y];
        }

        private int leastOf(int set) {
            int x = 0;
            while (x < count && (set >> x & 1) == 0) {
                x++;
            }
            return x;
        }
    }

    /** A place for a ROW (held is its SORT), for one of the PEOPLE (10 and his number) or for NOTHING (NONE). */
    private static final class Shelf {
        int held = NONE;
        int length;
        final long[] elements = new long[MOST_ELEMENTS];

        boolean isEmpty() {
            return held == NONE;
        }

        boolean isRow() {
            return held >= 0 && held < SORT_COUNT;
        }

        int personHeld() {
            return held >= FIRST_PERSON_HELD ? held - FIRST_PERSON_HELD : NONE;
        }

        void becomeRow(int sort, int n) {
            held = sort;
            length = n;
            for (int i = 0; i < MOST_ELEMENTS; i++) {
                elements[i] = 0;
            }
        }

        void put(int i, long v) {
            elements[i] = asHeld(v);
        }

        boolean hasPlaces(int from, int n) {
            return from >= 0 && n >= 0 && from <= length && n <= length - from;
        }

        private long asHeld(long v) {
            switch (held) {
                case 0:
                    return (byte) v;
                case 1:
                    return (short) v;
                case 2:
                    return (int) v;
                case 4:
                    return asNumber(v != 0);
                default:
                    return v;
            }
        }
    }

    /** THE TAPE and the TOKEN at hand; where reading stops, that TOKEN's place is the FAULT. */
    private static final class Tape {
        private static final int AT_END = 0;
        private static final int AT_WORD = 1;
        private static final int AT_NUMBER = 2;
        private static final int AT_SIGN = 3;
        private static final int AT_NO_TOKEN = 4;
        private static final int BLANK = 32;

        private final int[] bytes = new int[TAPE_ROOM];
        int size;
        /** The place of the TOKEN at hand; THE TAPE's size, if there is none any more. */
        int at;
        private int end;
        private int token;

        void append(int letter) {
            if (size < TAPE_ROOM) {
                bytes[size] = letter;
                size++;
            }
        }

        /** How many STATEMENTS came to the PEOPLE; NONE: there is a FAULT, and some may have come. */
        int readInto(People people) {
            end = 0;
            advance();
            for (int n = 1; n <= TAPE_ROOM; n++) {
                if (!readStatement(people)) {
                    return NONE;
                }
                if (token == AT_END) {
                    return n;
                }
                if (token != AT_SIGN) {
                    return NONE;
                }
                advance();
            }
            return NONE;
        }

        private boolean readStatement(People people) {
            if (isWord("person")) {
                return readPerson(people);
            }
            if (isWord("wrong")) {
                return readWrong(people);
            }
            if (isWord("right")) {
                return readRight(people);
            }
            if (isWord("words")) {
                return readWords(people);
            }
            if (isWord("minutes")) {
                return readMinutes(people);
            }
            return isWord("absent") && readAbsent(people);
        }

        /** Room is looked at while the word is at hand: it is the TOKEN that can't stand there. */
        private boolean readPerson(People people) {
            if (people.isFull()) {
                return false;
            }
            advance();
            int kind = takeNumber(0, KIND_COUNT - 1);
            int a = kind == NONE ? NONE : takeNumber(0, MOST_A);
            int words = a == NONE ? NONE : takeNumber(0, MOST_WORDS);
            if (words == NONE) {
                return false;
            }
            people.add(kind, a, words);
            return true;
        }

        private boolean readWrong(People people) {
            advance();
            int x = numberAtHand();
            if (!people.has(x) || people.kind[x] == GUEST) {
                return false;
            }
            people.makeWrong(x, true);
            advance();
            return true;
        }

        private boolean readRight(People people) {
            advance();
            int x = takeNumber(0, people.count - 1);
            if (x == NONE) {
                return false;
            }
            people.makeWrong(x, false);
            return true;
        }

        private boolean readWords(People people) {
            advance();
            int x = takeNumber(0, people.count - 1);
            int words = x == NONE ? NONE : takeNumber(0, MOST_WORDS);
            if (words == NONE) {
                return false;
            }
            people.words[x] = words;
            return true;
        }

        private boolean readMinutes(People people) {
            advance();
            int minutes = takeNumber(1, MOST_MINUTES);
            if (minutes == NONE) {
                return false;
            }
            people.minutes = minutes;
            return true;
        }

        private boolean readAbsent(People people) {
            advance();
            int absent = takeNumber(0, MOST_ABSENT);
            if (absent == NONE) {
                return false;
            }
            people.absent = absent;
            return true;
        }

        /** Goes on behind a NUMBER that may be; stays at any other TOKEN, and answers NONE. */
        private int takeNumber(int least, int most) {
            int v = numberAtHand();
            if (v < least || v > most) {
                return NONE;
            }
            advance();
            return v;
        }

        private int numberAtHand() {
            if (token != AT_NUMBER || end - at > 2) {
                return NONE;
            }
            int v = 0;
            for (int i = at; i < end; i++) {
                v = 10 * v + bytes[i] - '0';
            }
            return v;
        }

        private boolean isWord(String word) {
            if (token != AT_WORD || end - at != word.length()) {
                return false;
            }
            for (int i = 0; i < word.length(); i++) {
                if (bytes[at + i] != word.charAt(i)) {
                    return false;
                }
            }
            return true;
        }

        private void advance() {
            at = end;
            while (at < size && bytes[at] == BLANK) {
                at++;
            }
            token = at < size ? tokenOf(bytes[at]) : AT_END;
            end = at < size ? at + 1 : at;
            if (token == AT_WORD || token == AT_NUMBER) {
                while (end < size && tokenOf(bytes[end]) == token) {
                    end++;
                }
            }
        }

        private static int tokenOf(int letter) {
            if (letter >= 'a' && letter <= 'z') {
                return AT_WORD;
            }
            if (letter >= '0' && letter <= '9') {
                return AT_NUMBER;
            }
            return letter == ';' ? AT_SIGN : AT_NO_TOKEN;
        }
    }
}
