import java.io.IOException;

/** Promises 1 to 16, sentence by sentence, at their boundary cases. */
public final class EdgesOfShelvesAndClassTest {
    private static final int NONE = InTwosInSpanish.NONE;
    private static final int BAD = -2;
    private static final int OTHER = -3;
    private static final int NOTHING = -4;
    private static final int STUCK = -5;
    private static final int FULL = -6;
    private static final int MIN = Integer.MIN_VALUE;
    private static final int MAX = Integer.MAX_VALUE;

    private final Sentences t;

    private EdgesOfShelvesAndClassTest(Sentences t) {
        this.t = t;
    }

    public static void main(String[] args) throws IOException {
        Sentences t = new Sentences();
        EdgesOfShelvesAndClassTest test = new EdgesOfShelvesAndClassTest(t);
        test.newObject();
        test.row();
        test.set();
        test.copy();
        test.copyRefused();
        test.element();
        test.holds();
        test.show();
        test.says();
        test.person();
        test.words();
        test.wrong();
        test.tell();
        test.feed();
        test.wipe();
        test.group();
        test.personOf();
        t.end();
    }

    private void newObject() {
        t.promise(1);
        Worlds.shelved().status(0);
        t.sentence("Nobody;");
        t.asked(Worlds::nobody, 0, "status", 0);
        t.refused(Worlds::nobody, BAD, "personOf", 0, 0);
        t.due("nobody after another object had six", new InTwosInSpanish().status(0), 0);
        t.due("nothing is kept", new InTwosInSpanish().back(), STUCK);

        t.sentence("SHELVES hold NOTHING;");
        for (int s = 0; s < 8; s++) {
            t.asked(Worlds::nobody, NONE, "holds", s);
        }
        t.asked(Worlds::nobody, 0, "status", 8);

        t.sentence("THE TAPE is empty.");
        t.asked(Worlds::nobody, 0, "status", 6);
        t.due("a FAULT at 0", new InTwosInSpanish().group(), -20);
        t.due("the first byte", new InTwosInSpanish().feed(0), 1);
        for (int sort = 12; sort <= 16; sort++) {
            t.asked(Worlds::nobody, 0, "status", sort);
        }
    }

    private void row() {
        t.promise(2);
        t.sentence("SHELF s holds a new ROW: 1.");
        for (int s = 0; s < 8; s++) {
            InTwosInSpanish x = Worlds.shelved();
            t.due("row(" + s + ", 4, 40)", x.row(s, 4, 40), 1);
            t.due("over whatever was there", x.holds(s), 4);
            t.due("new", x.element(s, 0) + x.element(s, 39), 0);
            t.due("forty", x.set(s, 39, 1), 1);
        }
        InTwosInSpanish y = Worlds.shelved();
        t.due("the same SORT and size", y.row(0, 0, 4), 1);
        t.due("new", y.element(0, 0) + y.element(0, 3), 0);
        t.due("shorter", y.row(6, 0, 1), 1);
        t.due("what was longer is gone", y.set(6, 1, 1), BAD);

        t.sentence("BAD.");
        t.range(Worlds::shelved, "row", 0, 0, 7, 0, 0, 0);
        t.range(Worlds::shelved, "row", 1, 0, 4, 0, 0, 0);
        t.range(Worlds::shelved, "row", 2, 0, 40, 0, 0, 0);
    }

    private void set() {
        t.promise(3);
        t.sentence("Element i of the ROW in SHELF s becomes v: 1.");
        InTwosInSpanish x = Worlds.shelved();
        t.due("the first", x.set(0, 0, 9), 1);
        t.due("the last", x.set(0, 3, -9), 1);
        long[] want = {9, 2, 3, -9};
        for (int i = 0; i < 4; i++) {
            t.due("element " + i, x.element(0, i), want[i]);
        }

        t.sentence("BAD SHELF; OTHER; NOTHING; BAD i.");
        t.refused(Worlds::shelved, BAD, "set", -1, 0, 0);
        t.refused(Worlds::shelved, BAD, "set", 8, 0, 0);
        t.refused(Worlds::shelved, BAD, "set", MIN, 0, 0);
        t.refused(Worlds::shelved, BAD, "set", MAX, 0, 0);
        t.refused(Worlds::shelved, OTHER, "set", 2, 0, 0);
        t.refused(Worlds::shelved, OTHER, "set", 2, -1, 0);
        t.refused(Worlds::shelved, NOTHING, "set", 3, 0, 0);
        t.refused(Worlds::shelved, NOTHING, "set", 3, 40, 0);
        t.range(Worlds::shelved, "set", 1, 0, 3, 0, 0, 5);
        t.range(Worlds::shelved, "set", 1, 0, 39, 6, 0, 5);
        t.refused(Worlds::shelved, BAD, "set", 5, 0, 0);
    }

    private void copied(int p, int q, int i, int j, int n, long... want) {
        InTwosInSpanish x = new InTwosInSpanish();
        Worlds.fill(x, 0, 0, 1, 2, 3, 4);
        Worlds.fill(x, 1, 0, 11, 12, 13);
        String call = "copy(" + p + ", " + q + ", " + i + ", " + j + ", " + n + ")";
        t.due(call, x.copy(p, q, i, j, n), n);
        for (int k = 0; k < want.length; k++) {
            t.due(call + ", element " + k, x.element(q, k), want[k]);
        }
        t.due(call + ", none behind", x.element(q, want.length), 0);
        for (int k = 0; k < 4 && p != q; k++) {
            t.due(call + ", the other ROW stays", x.element(p, k), p == 0 ? k + 1 : k < 3 ? k + 11 : 0);
        }
    }

    private void copy() {
        t.promise(4);
        t.sentence("n elements of the ROW in SHELF p from place i on come to places j on of that in q (as they were): n.");
        copied(0, 1, 0, 0, 3, 1, 2, 3);
        copied(0, 1, 1, 0, 3, 2, 3, 4);
        copied(0, 1, 3, 2, 1, 11, 12, 4);
        copied(1, 0, 0, 1, 3, 1, 11, 12, 13);
        copied(0, 1, 0, 0, 0, 11, 12, 13);
        copied(0, 1, 3, 2, 0, 11, 12, 13);
        copied(0, 1, 4, 3, 0, 11, 12, 13);
        copied(0, 0, 0, 1, 3, 1, 1, 2, 3);
        copied(0, 0, 1, 0, 3, 2, 3, 4, 4);
        copied(0, 0, 0, 0, 4, 1, 2, 3, 4);
        InTwosInSpanish x = Worlds.shelved();
        t.due("all forty", x.copy(6, 6, 0, 0, 40), 40);
        t.due("none of none", x.copy(5, 5, 0, 0, 0), 0);
        for (int sort = 0; sort < 5; sort++) {
            InTwosInSpanish y = new InTwosInSpanish();
            Worlds.fill(y, 0, sort, 1, 0);
            Worlds.fill(y, 7, sort, 0, 1);
            t.due("SORT " + sort, y.copy(0, 7, 0, 0, 2), 2);
            t.due("SORT " + sort, 10 * y.element(7, 0) + y.element(7, 1), 10);
        }
    }

    private void copyRefused() {
        t.sentence("BAD SHELVES; OTHER (also ROWS of two SORTS, if both hold something); NOTHING; BAD the others.");
        // SHELF 0 four bytes, 1 three ints, 2 one of the PEOPLE, 3 NOTHING, 5 no bytes, 6 forty bytes
        t.refused(Worlds::shelved, BAD, "copy", -1, 6, 0, 0, 0);
        t.refused(Worlds::shelved, BAD, "copy", 8, 6, 0, 0, 0);
        t.refused(Worlds::shelved, BAD, "copy", 0, -1, 0, 0, 0);
        t.refused(Worlds::shelved, BAD, "copy", 0, 8, 0, 0, 0);
        t.refused(Worlds::shelved, BAD, "copy", 2, 8, 0, 0, 0);
        t.refused(Worlds::shelved, BAD, "copy", 3, MAX, 0, 0, 0);
        t.refused(Worlds::shelved, BAD, "copy", MIN, 3, 0, 0, 0);
        t.refused(Worlds::shelved, OTHER, "copy", 2, 0, 0, 0, -1);
        t.refused(Worlds::shelved, OTHER, "copy", 0, 2, 0, 0, -1);
        t.refused(Worlds::shelved, OTHER, "copy", 2, 2, 0, 0, 0);
        t.refused(Worlds::shelved, OTHER, "copy", 2, 3, 0, 0, 0);
        t.refused(Worlds::shelved, OTHER, "copy", 3, 2, 0, 0, 0);
        t.refused(Worlds::shelved, OTHER, "copy", 0, 1, 0, 0, 1);
        t.refused(Worlds::shelved, OTHER, "copy", 1, 0, 99, 0, 1);
        t.refused(Worlds::shelved, NOTHING, "copy", 0, 3, 0, 0, -1);
        t.refused(Worlds::shelved, NOTHING, "copy", 3, 0, -1, 0, 0);
        t.refused(Worlds::shelved, NOTHING, "copy", 3, 3, 0, 0, 0);
        t.range(Worlds::shelved, "copy", 2, 0, 3, 0, 6, 0, 0, 1);
        t.range(Worlds::shelved, "copy", 3, 0, 3, 6, 0, 0, 0, 1);
        t.range(Worlds::shelved, "copy", 4, 0, 4, 0, 6, 0, 0, 0);
        t.range(Worlds::shelved, "copy", 4, 0, 4, 6, 0, 0, 0, 0);
        t.range(Worlds::shelved, "copy", 4, 0, 1, 6, 6, 39, 0, 0);
        t.range(Worlds::shelved, "copy", 4, 0, 1, 6, 6, 0, 39, 0);
        t.refused(Worlds::shelved, BAD, "copy", 0, 6, 5, 0, 0);
        t.refused(Worlds::shelved, BAD, "copy", 6, 0, 0, 5, 0);
        t.refused(Worlds::shelved, BAD, "copy", 5, 0, 0, 0, 1);
        t.refused(Worlds::shelved, BAD, "copy", 0, 5, 0, 0, 1);
        t.refused(Worlds::shelved, BAD, "copy", 0, 6, MAX, 0, MAX);
        t.refused(Worlds::shelved, BAD, "copy", 0, 6, 1, 1, MAX);
        t.refused(Worlds::shelved, BAD, "copy", 0, 6, MIN, MIN, MIN);
    }

    private void element() {
        t.promise(5);
        t.sentence("Element i of the ROW;");
        t.asked(Worlds::shelved, 1, "element", 0, 0);
        t.asked(Worlds::shelved, 4, "element", 0, 3);
        InTwosInSpanish x = new InTwosInSpanish();
        Worlds.fill(x, 7, 3, Long.MIN_VALUE, -2, Long.MAX_VALUE);
        t.due("a long", x.element(7, 0), Long.MIN_VALUE);
        t.due("no refusal", x.element(7, 1), -2);
        t.due("a long", x.element(7, 2), Long.MAX_VALUE);

        t.sentence("0: none, no ROW (nothing is refused).");
        int[][] none = {{0, -1}, {0, 4}, {0, MIN}, {0, MAX}, {5, 0}, {6, 40}, {2, 0}, {3, 0}, {-1, 0}, {8, 0}, {MIN, 0},
            {MAX, MAX}};
        for (int[] n : none) {
            t.asked(Worlds::shelved, 0, "element", n[0], n[1]);
        }
        InTwosInSpanish y = new InTwosInSpanish();
        Worlds.fill(y, 0, 0, 1, 2, 3);
        y.person(0, 0, 0);
        y.show(0, 0);
        t.due("one of the PEOPLE where a ROW was", y.element(0, 1), 0);
        y.show(0, NONE);
        t.due("NOTHING where a ROW was", y.element(0, 1), 0);
    }

    private void holds() {
        t.promise(6);
        t.sentence("What SHELF s holds: NONE NOTHING, no SHELF;");
        t.asked(Worlds::shelved, NONE, "holds", 3);
        t.asked(Worlds::shelved, NONE, "holds", -1);
        t.asked(Worlds::shelved, NONE, "holds", 8);
        t.asked(Worlds::shelved, NONE, "holds", MIN);
        t.asked(Worlds::shelved, NONE, "holds", MAX);

        t.sentence("0 to 4 a ROW by its SORT;");
        for (int sort = 0; sort < 5; sort++) {
            InTwosInSpanish x = new InTwosInSpanish();
            x.row(0, sort, 0);
            t.due("SORT " + sort, x.holds(0), sort);
        }
        t.asked(Worlds::shelved, 0, "holds", 5);

        t.sentence("10 and the number of one of the PEOPLE.");
        for (int p = 0; p < 8; p++) {
            InTwosInSpanish x = Worlds.eight();
            x.show(7, p);
            t.due("number " + p, x.holds(7), 10 + p);
        }
    }

    private void show() {
        t.promise(7);
        t.sentence("SHELF s holds one of the PEOPLE, or NOTHING (person NONE): 1.");
        for (int s = 0; s < 8; s++) {
            InTwosInSpanish x = Worlds.shelved();
            t.due("one", x.show(s, 5), 1);
            t.due("one", x.holds(s), 15);
            t.due("NOTHING", x.show(s, NONE), 1);
            t.due("NOTHING", x.holds(s), NONE);
            t.due("NOTHING where it was", x.show(s, NONE), 1);
        }
        InTwosInSpanish y = Worlds.shelved();
        y.show(0, 1);
        t.due("one in two SHELVES", y.holds(0) + y.holds(2), 22);

        t.sentence("BAD.");
        t.range(Worlds::shelved, "show", 0, 0, 7, 0, 0);
        t.range(Worlds::shelved, "show", 0, 0, 7, 0, NONE);
        t.range(Worlds::shelved, "show", 1, NONE, 5, 0, 0);
        t.range(Worlds::nobody, "show", 1, NONE, NONE, 0, 0);
    }

    private void says() {
        t.promise(8);
        t.sentence("What the one in SHELF s, taken for one of a KIND, says: PERSON his a;");
        t.asked(Worlds::shelved, 2, "says", 2, 0);
        t.asked(Worlds::shelved, 0, "says", 4, 0);
        t.asked(Worlds::shelved, 4, "says", 7, 0);

        t.sentence("SHY, SILENT, QUICK, BORED, GUEST what he SPEAKS with the one of the number 0 (himself, if he is it), "
                + "by his own KIND.");
        t.asked(Worlds::shelved, 18, "says", 2, 1);
        t.asked(Worlds::shelved, 40, "says", 4, 5);
        t.asked(Worlds::shelved, 12, "says", 7, 1);
        t.asked(Worlds::shelved, 12, "says", 7, 3);
        // SILENT: the one of the number 0 is above him by 24, then by 25
        t.asked(() -> shown(0, 0, 34, 3, 4, 10), 12, "says", 1, 1);
        t.asked(() -> shown(0, 0, 35, 3, 4, 10), 0, "says", 1, 1);
        t.asked(() -> shown(0, 0, 35, 3, 4, 10), 0, "says", 1, 3);
        // BORED: he is above by 15, then by 16
        t.asked(() -> shown(0, 0, 45, 4, 5, 60), 49, "says", 1, 2);
        t.asked(() -> shown(0, 0, 44, 4, 5, 60), 24, "says", 1, 2);
        t.asked(() -> shown(0, 0, 44, 4, 5, 60), 24, "says", 1, 4);
        int[] himself = {0, 20, 44, 20, 44, 40};
        for (int kind = 1; kind < 6; kind++) {
            int own = kind;
            t.asked(() -> shown(own, 4, 50, 0, 0, 99), himself[kind], "says", 0, kind);
        }

        t.sentence("BAD SHELF, KIND; OTHER (also if he is of no such KIND nor of one under it); NOTHING.");
        t.refused(Worlds::shelved, BAD, "says", -1, 0);
        t.refused(Worlds::shelved, BAD, "says", 8, 0);
        t.refused(Worlds::shelved, BAD, "says", MIN, 0);
        t.refused(Worlds::shelved, BAD, "says", MAX, 0);
        t.refused(Worlds::shelved, BAD, "says", 2, -1);
        t.refused(Worlds::shelved, BAD, "says", 2, 6);
        t.refused(Worlds::shelved, BAD, "says", 2, MIN);
        t.refused(Worlds::shelved, BAD, "says", 2, MAX);
        t.refused(Worlds::shelved, BAD, "says", 3, -1);
        t.refused(Worlds::shelved, BAD, "says", 0, 6);
        t.refused(Worlds::shelved, OTHER, "says", 0, 0);
        t.refused(Worlds::shelved, OTHER, "says", 5, 5);
        t.refused(Worlds::shelved, NOTHING, "says", 3, 0);
        t.refused(Worlds::shelved, NOTHING, "says", 3, 5);
        String[] taken = {"0", "01", "02", "013", "024", "05"};
        for (int own = 0; own < 6; own++) {
            int kindOfOne = own;
            for (int kind = 0; kind < 6; kind++) {
                if (taken[own].indexOf('0' + kind) < 0) {
                    t.refused(() -> shown(kindOfOne, 0, 0), OTHER, "says", 0, kind);
                }
            }
        }
    }

    /** People, each in the SHELF of his number. */
    private static InTwosInSpanish shown(int... told) {
        InTwosInSpanish x = Worlds.people(told);
        for (int p = 0; p < told.length / 3; p++) {
            x.show(p, p);
        }
        return x;
    }

    private void person() {
        t.promise(9);
        t.sentence("One of the PEOPLE: the number.");
        InTwosInSpanish x = new InTwosInSpanish();
        for (int n = 0; n < 8; n++) {
            t.due("the number", x.person(n % 6, n + 1, 99 - n), n);
        }
        for (int n = 0; n < 8; n++) {
            int[] want = {n % 6, n + 1, 99 - n, 0, 0};
            for (int what = 0; what < 5; what++) {
                t.due("personOf(" + n + ", " + what + ")", x.personOf(n, what), want[what]);
            }
        }

        t.sentence("BAD; FULL.");
        t.range(Worlds::six, "person", 0, 0, 5, 0, 0, 0);
        t.range(Worlds::six, "person", 1, 0, 9, 0, 0, 0);
        t.range(Worlds::six, "person", 2, 0, 99, 0, 0, 0);
        t.refused(Worlds::eight, FULL, "person", 0, 0, 0);
        t.refused(Worlds::eight, FULL, "person", 5, 9, 99);
        t.refused(Worlds::eight, BAD, "person", 6, 0, 0);
        t.refused(Worlds::eight, BAD, "person", 0, 10, 0);
        t.refused(Worlds::eight, BAD, "person", 0, 0, 100);
    }

    private void words() {
        t.promise(10);
        t.sentence("WORDS of one become v: what they were.");
        InTwosInSpanish x = Worlds.six();
        t.due("words(0, 99)", x.words(0, 99), 30);
        t.due("words(0, 0)", x.words(0, 0), 99);
        t.due("words(0, 0)", x.words(0, 0), 0);
        t.due("words(5, 1)", x.words(5, 1), 99);
        t.due("all WORDS", x.status(4), 45 + 80 + 10 + 60 + 1);

        t.sentence("BAD.");
        t.range(Worlds::shelved, "words", 0, 0, 5, 0, 0);
        t.range(Worlds::shelved, "words", 1, 0, 99, 0, 0);
        t.refused(Worlds::nobody, BAD, "words", 0, 0);
    }

    private void wrong() {
        t.promise(11);
        t.sentence("One is WRONG, or isn't: whether he was (1, 0).");
        InTwosInSpanish x = Worlds.eight();
        for (int p = 0; p < 8; p += 7) {
            t.due("becomes", x.wrong(p, true), 0);
            t.due("is", x.wrong(p, true), 1);
            t.due("WRONG ones", x.spread(0), 1 << p);
            t.due("becomes right", x.wrong(p, false), 1);
            t.due("is right", x.wrong(p, false), 0);
            t.due("WRONG ones", x.spread(0), 0);
        }

        t.sentence("BAD; STUCK: a GUEST who should be.");
        t.range(Worlds::six, "wrong", 0, 0, 5, 0, 0);
        t.refused(Worlds::six, BAD, "wrong", 6, 1);
        t.refused(Worlds::six, BAD, "wrong", -1, 1);
        t.refused(Worlds::shelved, STUCK, "wrong", 5, 1);
        t.asked(Worlds::shelved, 0, "wrong", 5, 0);
        t.asked(Worlds::shelved, 1, "wrong", 3, 1);
    }

    private void tell() {
        t.promise(12);
        t.sentence("MINUTES (what 0), ABSENT (1) becomes v: what it was.");
        InTwosInSpanish x = new InTwosInSpanish();
        t.due("MINUTES", x.tell(0, 9), 4);
        t.due("MINUTES", x.tell(0, 1), 9);
        t.due("MINUTES", x.status(1), 1);
        t.due("ABSENT", x.tell(1, 12), 1);
        t.due("ABSENT", x.tell(1, 0), 12);
        t.due("ABSENT", x.status(2), 0);

        t.sentence("BAD.");
        t.range(Worlds::shelved, "tell", 0, 0, 1, 0, 5);
        t.range(Worlds::shelved, "tell", 1, 1, 9, 0, 0);
        t.range(Worlds::shelved, "tell", 1, 0, 12, 1, 0);
    }

    private static InTwosInSpanish fullTape() {
        InTwosInSpanish x = new InTwosInSpanish();
        Worlds.feed(x, " ".repeat(241) + "minutes 7");
        return x;
    }

    private void feed() {
        t.promise(13);
        t.sentence("THE TAPE gets one byte (0 to 255) behind it: its size.");
        InTwosInSpanish x = new InTwosInSpanish();
        for (int n = 1; n <= 250; n++) {
            t.due("size", x.feed(n % 2 == 0 ? 255 : 0), n);
        }
        t.due("size", x.status(6), 250);
        InTwosInSpanish y = new InTwosInSpanish();
        Worlds.feed(y, "minutes 7");
        t.due("behind it", y.group(), 1);
        t.due("behind it", y.status(1), 7);

        t.sentence("BAD; FULL.");
        t.range(Worlds::shelved, "feed", 0, 0, 255, 0);
        t.refused(EdgesOfShelvesAndClassTest::fullTape, FULL, "feed", 0);
        t.refused(EdgesOfShelvesAndClassTest::fullTape, FULL, "feed", 255);
        t.refused(EdgesOfShelvesAndClassTest::fullTape, BAD, "feed", 256);
        t.refused(EdgesOfShelvesAndClassTest::fullTape, BAD, "feed", -1);
    }

    private void wipe() {
        t.promise(14);
        t.sentence("THE TAPE is empty: its size ahead.");
        InTwosInSpanish x = fullTape();
        t.due("full", x.wipe(), 250);
        t.due("empty", x.wipe(), 0);
        t.due("empty", x.status(6), 0);
        t.due("there is room again", x.feed('a'), 1);
        t.due("one", x.wipe(), 1);
        t.due("a FAULT at 0", x.group(), -20);
        InTwosInSpanish y = new InTwosInSpanish();
        Worlds.feed(y, "xxx");
        y.wipe();
        t.due("nothing of it is left", Worlds.read(y, "minutes 7"), 1);
    }

    private void group() {
        t.promise(15);
        t.sentence("THE TAPE is a CLASS: how many STATEMENTS;");
        t.due("one", Worlds.read(new InTwosInSpanish(), "minutes 7"), 1);
        t.due("the most that have room", Worlds.read(Worlds.persons(1), "right0;".repeat(34) + "right0"), 35);
        t.due("eight", Worlds.read(new InTwosInSpanish(), "person0 0 0;".repeat(7) + "person0 0 0"), 8);

        t.sentence("-20 less the FAULT (that is refused, too: BAD).");
        InTwosInSpanish x = Worlds.shelved();
        t.due("a FAULT at 10", Worlds.read(x, ";x"), -30);
        t.due("BAD", x.status(12), 1);
        t.due("nothing came", x.status(1), 4);
        t.due("a FAULT at 0", x.group(), -20);
        t.due("BAD", x.status(12), 2);
        t.due("a FAULT at 250", Worlds.read(new InTwosInSpanish(), " ".repeat(250)), -270);
        t.due("no other REFUSALS", x.status(13) + x.status(14) + x.status(15) + x.status(16), 0);
        InTwosInSpanish full = Worlds.eight();
        t.due("no room", Worlds.read(full, "person 0 0 0"), -20);
        t.due("BAD, not FULL", full.status(12) * 10 + full.status(16), 10);
        InTwosInSpanish guest = Worlds.six();
        t.due("a GUEST", Worlds.read(guest, "wrong 5"), -26);
        t.due("BAD, not STUCK", guest.status(12) * 10 + guest.status(15), 10);

        t.sentence("THE TAPE is empty then, either way.");
        InTwosInSpanish y = Worlds.shelved();
        t.due("it comes", y.group(), 1);
        t.due("empty", y.status(6), 0);
        t.due("a FAULT", Worlds.read(y, "x"), -20);
        t.due("empty", y.status(6), 0);
        t.due("it comes", Worlds.read(y, "minutes 8"), 1);
        t.due("there is room again", y.feed('a'), 1);
    }

    private void personOf() {
        t.promise(16);
        t.sentence("Of one of the PEOPLE: KIND (0), a (1), WORDS (2), whether WRONG (3; 1, 0), MET (bits; 4).");
        int[][] want = {{0, 1, 30, 0, 0}, {1, 2, 45, 0, 0}, {2, 7, 80, 0, 0}, {3, 4, 10, 1, 0}, {4, 5, 60, 0, 0},
            {5, 0, 99, 0, 0}};
        for (int p = 0; p < 6; p++) {
            for (int what = 0; what < 5; what++) {
                t.asked(Worlds::shelved, want[p][what], "personOf", p, what);
            }
        }
        InTwosInSpanish x = Worlds.eight();
        x.talk(7, 0);
        x.talk(7, 6);
        t.due("MET", x.personOf(7, 4), 65);
        t.due("MET", x.personOf(0, 4), 128);
        t.due("MET", x.personOf(6, 4), 128);

        t.sentence("BAD.");
        t.range(Worlds::shelved, "personOf", 0, 0, 5, 0, 0);
        t.range(Worlds::shelved, "personOf", 1, 0, 4, 0, 0);
        t.refused(Worlds::nobody, BAD, "personOf", 0, 0);
    }
}
