/** Each promise of the document, with answers reckoned by hand. */
public final class PromisesTest {
    private static final int NONE = InTwosInSpanish.NONE;
    private static final int BAD = -2;
    private static final int OTHER = -3;
    private static final int NOTHING = -4;
    private static final int STUCK = -5;
    private static final int FULL = -6;

    private static int wrong = 0;
    private static int checks = 0;

    public static void main(String[] args) {
        newObject();
        row();
        set();
        copy();
        elementAndHolds();
        show();
        says();
        person();
        words();
        wrong();
        tell();
        feedAndWipe();
        groupReads();
        groupFaults();
        groupComesWholeOrNot();
        personOf();
        speaks();
        learns();
        after();
        share();
        rounds();
        roundsOfOddPeople();
        tonight();
        rather();
        ahead();
        spreadAndCured();
        listen();
        kinds();
        spans();
        hold();
        stay();
        lesson();
        best();
        first();
        silentGapNoise();
        bestRound();
        minutesFor();
        gain();
        bestAway();
        often();
        unmetAndMet();
        allAndFair();
        sitsOut();
        mixedAndOfKind();
        turned();
        until();
        likes();
        bestPair();
        fresh();
        harmAndDumb();
        judge();
        learned();
        talk();
        evening();
        drawn();
        seed();
        imageAndBack();
        status();
        refusalsChangeNothing();
        eightAlike();
        System.out.println(checks + " checks of promises, " + wrong + " not as due");
        if (wrong != 0) {
            System.exit(1);
        }
    }

    private static void due(String call, long got, long want) {
        checks++;
        if (got != want) {
            wrong++;
            System.out.println(call + " answered " + got + ", due is " + want);
        }
    }

    /** A PERSON, a SHY, a QUICK, a SILENT, a BORED one and a GUEST. */
    private static InTwosInSpanish six() {
        InTwosInSpanish x = new InTwosInSpanish();
        x.person(0, 1, 30);
        x.person(1, 2, 45);
        x.person(2, 7, 80);
        x.person(3, 4, 10);
        x.person(4, 5, 60);
        x.person(5, 0, 99);
        return x;
    }

    /** PERSONS who SPEAK 40, 32 and 24. */
    private static InTwosInSpanish three() {
        return persons(50, 30, 10);
    }

    private static InTwosInSpanish persons(int... words) {
        InTwosInSpanish x = new InTwosInSpanish();
        for (int w : words) {
            x.person(0, 0, w);
        }
        return x;
    }

    private static int read(InTwosInSpanish x, String text) {
        for (int i = 0; i < text.length(); i++) {
            x.feed(text.charAt(i));
        }
        return x.group();
    }

    private static void tellPairs(InTwosInSpanish x, int s, int sort, int... elements) {
        x.row(s, sort, elements.length);
        for (int i = 0; i < elements.length; i++) {
            x.set(s, i, elements[i]);
        }
    }

    private static void newObject() {
        InTwosInSpanish x = new InTwosInSpanish();
        int[] want = {0, 4, 1, 0, 0, 0, 0, 1, 0, -1, -1, -1, 0, 0, 0, 0, 0, -1};
        for (int what = 0; what < want.length; what++) {
            due("1: status(" + what + ")", x.status(what), want[what]);
        }
        for (int s = 0; s < 8; s++) {
            due("1: holds(" + s + ")", x.holds(s), NONE);
        }
        due("1: back()", x.back(), STUCK);
        due("1: NONE", InTwosInSpanish.NONE, -1);
    }

    private static void row() {
        InTwosInSpanish x = new InTwosInSpanish();
        due("2: row(0, 0, 0)", x.row(0, 0, 0), 1);
        due("2: row(7, 4, 40)", x.row(7, 4, 40), 1);
        due("2: element(7, 39)", x.element(7, 39), 0);
        int[][] bad = {{-1, 0, 0}, {8, 0, 0}, {0, -1, 0}, {0, 5, 0}, {0, 0, -1}, {0, 0, 41}};
        for (int[] b : bad) {
            due("2: row(" + b[0] + ", " + b[1] + ", " + b[2] + ")", x.row(b[0], b[1], b[2]), BAD);
        }
        due("2: status(12)", x.status(12), 6);
        x.row(1, 3, 2);
        x.set(1, 0, 7);
        due("2: row(1, 2, 2)", x.row(1, 2, 2), 1);
        due("2: element(1, 0) of a new ROW", x.element(1, 0), 0);
        due("2: holds(1)", x.holds(1), 2);
        x.person(0, 0, 0);
        x.show(1, 0);
        due("2: row(1, 0, 1) over one of the PEOPLE", x.row(1, 0, 1), 1);
        due("2: holds(1)", x.holds(1), 0);
    }

    private static void set() {
        InTwosInSpanish x = new InTwosInSpanish();
        long[] v = {0x1234567890ABCDEFL, -1, 256, Long.MIN_VALUE, 128, 1L << 32};
        long[][] want = {
            {(byte) 0xEF, -1, 0, 0, -128, 0},
            {(short) 0xCDEF, -1, 256, 0, 128, 0},
            {0x90ABCDEF, -1, 256, 0, 128, 0},
            {0x1234567890ABCDEFL, -1, 256, Long.MIN_VALUE, 128, 1L << 32},
            {1, 1, 1, 1, 1, 1}};
        for (int sort = 0; sort < 5; sort++) {
            x.row(sort, sort, 6);
            for (int i = 0; i < 6; i++) {
                due("3: set", x.set(sort, i, v[i]), 1);
                due("3: SORT " + sort + " of " + v[i], x.element(sort, i), want[sort][i]);
            }
        }
        due("3: set(4, 0, 0)", x.set(4, 0, 0), 1);
        due("3: element(4, 0)", x.element(4, 0), 0);
        due("3: set(0, -1, 0)", x.set(0, -1, 0), BAD);
        due("3: set(0, 6, 0)", x.set(0, 6, 0), BAD);
        due("3: set(8, 0, 0)", x.set(8, 0, 0), BAD);
        due("3: set(-1, 0, 0)", x.set(-1, 0, 0), BAD);
        due("3: set(7, 0, 0)", x.set(7, 0, 0), NOTHING);
        due("3: set(7, -1, 0)", x.set(7, -1, 0), NOTHING);
        x.person(0, 0, 0);
        x.show(7, 0);
        due("3: set(7, 0, 0)", x.set(7, 0, 0), OTHER);
        due("3: set(7, 99, 0)", x.set(7, 99, 0), OTHER);
        x.row(6, 0, 0);
        due("3: set(6, 0, 0)", x.set(6, 0, 0), BAD);
    }

    private static void copy() {
        InTwosInSpanish x = new InTwosInSpanish();
        tellPairs(x, 0, 2, 1, 2, 3, 4, 5);
        tellPairs(x, 1, 2, 0, 0, 0);
        due("4: copy(0, 1, 3, 1, 2)", x.copy(0, 1, 3, 1, 2), 2);
        due("4: element(1, 0)", x.element(1, 0), 0);
        due("4: element(1, 1)", x.element(1, 1), 4);
        due("4: element(1, 2)", x.element(1, 2), 5);
        due("4: copy(0, 0, 0, 1, 4)", x.copy(0, 0, 0, 1, 4), 4);
        long[] up = {1, 1, 2, 3, 4};
        for (int i = 0; i < 5; i++) {
            due("4: as they were, up " + i, x.element(0, i), up[i]);
        }
        due("4: copy(0, 0, 1, 0, 4)", x.copy(0, 0, 1, 0, 4), 4);
        long[] down = {1, 2, 3, 4, 4};
        for (int i = 0; i < 5; i++) {
            due("4: as they were, down " + i, x.element(0, i), down[i]);
        }
        due("4: copy(0, 1, 5, 3, 0)", x.copy(0, 1, 5, 3, 0), 0);
        int[][] bad = {{0, 1, 6, 0, 0}, {0, 1, 0, 4, 0}, {0, 1, -1, 0, 1}, {0, 1, 0, -1, 1}, {0, 1, 0, 0, -1},
            {0, 1, 0, 0, 4}, {0, 1, 4, 0, 2}, {0, 1, 0, 2, 2}, {8, 0, 0, 0, 0}, {0, -1, 0, 0, 0},
            {0, 1, Integer.MAX_VALUE, 0, Integer.MAX_VALUE}, {0, 1, 1, 1, Integer.MAX_VALUE}};
        for (int[] b : bad) {
            due("4: copy BAD", x.copy(b[0], b[1], b[2], b[3], b[4]), BAD);
        }
        x.row(2, 1, 3);
        due("4: two SORTS", x.copy(0, 2, 0, 0, 1), OTHER);
        due("4: two SORTS, BAD n", x.copy(0, 2, 0, 0, -1), OTHER);
        due("4: to NOTHING", x.copy(0, 3, 0, 0, 1), NOTHING);
        due("4: from NOTHING", x.copy(3, 0, 0, 0, -1), NOTHING);
        due("4: NOTHING to NOTHING", x.copy(3, 3, 0, 0, 0), NOTHING);
        x.person(0, 0, 0);
        x.show(4, 0);
        due("4: from one of the PEOPLE", x.copy(4, 0, 0, 0, 0), OTHER);
        due("4: to one of the PEOPLE", x.copy(0, 4, 0, 0, 0), OTHER);
        due("4: OTHER goes ahead of NOTHING", x.copy(3, 4, 0, 0, 0), OTHER);
        due("4: OTHER goes ahead of NOTHING", x.copy(4, 3, 0, 0, 0), OTHER);
        due("4: two of the PEOPLE", x.copy(4, 4, 0, 0, 0), OTHER);
        due("4: BAD goes ahead of OTHER", x.copy(4, 8, 0, 0, 0), BAD);
    }

    private static void elementAndHolds() {
        InTwosInSpanish x = new InTwosInSpanish();
        x.row(3, 3, 2);
        x.set(3, 1, -9);
        due("5: element(3, 1)", x.element(3, 1), -9);
        int[][] none = {{3, 2}, {3, -1}, {4, 0}, {8, 0}, {-1, 0}, {3, Integer.MIN_VALUE}};
        for (int[] n : none) {
            due("5: element of none", x.element(n[0], n[1]), 0);
        }
        x.row(3, 3, 40);
        due("5: element behind forty", x.element(3, 40), 0);
        x.person(0, 0, 0);
        x.person(0, 0, 0);
        x.show(3, 1);
        due("5: element of one of the PEOPLE", x.element(3, 1), 0);
        due("6: holds one of the PEOPLE", x.holds(3), 11);
        for (int sort = 0; sort < 5; sort++) {
            x.row(5, sort, 1);
            due("6: holds a ROW", x.holds(5), sort);
        }
        due("6: holds NOTHING", x.holds(0), NONE);
        due("6: holds(-1)", x.holds(-1), NONE);
        due("6: holds(8)", x.holds(8), NONE);
        due("5, 6: nothing is refused", x.status(12) + x.status(13) + x.status(14), 0);
    }

    private static void show() {
        InTwosInSpanish x = new InTwosInSpanish();
        due("7: show nobody there", x.show(0, 0), BAD);
        x.person(0, 0, 0);
        due("7: show(0, 0)", x.show(0, 0), 1);
        due("7: holds(0)", x.holds(0), 10);
        due("7: show(0, 1)", x.show(0, 1), BAD);
        due("7: holds(0)", x.holds(0), 10);
        due("7: show(0, NONE)", x.show(0, NONE), 1);
        due("7: holds(0)", x.holds(0), NONE);
        due("7: show(0, -2)", x.show(0, -2), BAD);
        due("7: show(8, 0)", x.show(8, 0), BAD);
        due("7: show(-1, NONE)", x.show(-1, NONE), BAD);
        x.row(7, 0, 3);
        due("7: show(7, NONE) over a ROW", x.show(7, NONE), 1);
        due("7: holds(7)", x.holds(7), NONE);
    }

    private static void says() {
        InTwosInSpanish x = six();
        for (int p = 0; p < 6; p++) {
            x.show(p, p);
        }
        int[] as = {1, 2, 7, 4, 5, 0};
        int[] with0 = {32, 18, 59, 12, 24, 40};
        int[][] under = {{0}, {0, 1}, {0, 2}, {0, 1, 3}, {0, 2, 4}, {0, 5}};
        for (int p = 0; p < 6; p++) {
            for (int kind = 0; kind < 6; kind++) {
                boolean is = false;
                for (int k : under[p]) {
                    is |= k == kind;
                }
                due("8: says(" + p + ", " + kind + ")", x.says(p, kind), !is ? OTHER : kind == 0 ? as[p] : with0[p]);
            }
        }
        due("8: says(8, 0)", x.says(8, 0), BAD);
        due("8: says(0, 6)", x.says(0, 6), BAD);
        due("8: says(7, -1)", x.says(7, -1), BAD);
        due("8: says(7, 0)", x.says(7, 0), NOTHING);
        x.row(7, 0, 1);
        due("8: says(7, 0)", x.says(7, 0), OTHER);
        InTwosInSpanish y = new InTwosInSpanish();
        y.person(4, 3, 99);
        y.show(0, 0);
        due("8: himself", y.says(0, 2), 59);
        x.words(0, 35);
        due("8: a SILENT one by the one of the number 0", x.says(3, 1), 0);
    }

    private static void person() {
        InTwosInSpanish x = new InTwosInSpanish();
        int[][] bad = {{-1, 0, 0}, {6, 0, 0}, {0, -1, 0}, {0, 10, 0}, {0, 0, -1}, {0, 0, 100}};
        for (int[] b : bad) {
            due("9: person BAD", x.person(b[0], b[1], b[2]), BAD);
        }
        for (int n = 0; n < 8; n++) {
            due("9: person", x.person(n % 6, 9, 99), n);
        }
        due("9: a ninth", x.person(0, 0, 0), FULL);
        due("9: a BAD ninth", x.person(6, 0, 0), BAD);
        due("9: PEOPLE", x.status(0), 8);
        due("9: FULL", x.status(16), 1);
        due("9: not WRONG at first", x.status(5), 0);
        due("9: MET nobody at first", x.personOf(7, 4), 0);
    }

    private static void words() {
        InTwosInSpanish x = three();
        due("10: words(1, 99)", x.words(1, 99), 30);
        due("10: words(1, 0)", x.words(1, 0), 99);
        due("10: personOf(1, 2)", x.personOf(1, 2), 0);
        due("10: words(1, 100)", x.words(1, 100), BAD);
        due("10: words(1, -1)", x.words(1, -1), BAD);
        due("10: words(3, 0)", x.words(3, 0), BAD);
        due("10: words(-1, 0)", x.words(-1, 0), BAD);
    }

    private static void wrong() {
        InTwosInSpanish x = six();
        due("11: wrong(3, true)", x.wrong(3, true), 0);
        due("11: wrong(3, true)", x.wrong(3, true), 1);
        due("11: wrong(3, false)", x.wrong(3, false), 1);
        due("11: wrong(3, false)", x.wrong(3, false), 0);
        due("11: a GUEST", x.wrong(5, true), STUCK);
        due("11: a GUEST right", x.wrong(5, false), 0);
        due("11: wrong(6, true)", x.wrong(6, true), BAD);
        due("11: wrong(-1, false)", x.wrong(-1, false), BAD);
    }

    private static void tell() {
        InTwosInSpanish x = new InTwosInSpanish();
        due("12: tell(0, 9)", x.tell(0, 9), 4);
        due("12: tell(0, 1)", x.tell(0, 1), 9);
        due("12: tell(1, 12)", x.tell(1, 12), 1);
        due("12: tell(1, 0)", x.tell(1, 0), 12);
        int[][] bad = {{0, 0}, {0, 10}, {1, -1}, {1, 13}, {2, 1}, {-1, 1}};
        for (int[] b : bad) {
            due("12: tell BAD", x.tell(b[0], b[1]), BAD);
        }
        due("12: MINUTES", x.status(1), 1);
        due("12: ABSENT", x.status(2), 0);
    }

    private static void feedAndWipe() {
        InTwosInSpanish x = new InTwosInSpanish();
        due("13: feed(-1)", x.feed(-1), BAD);
        due("13: feed(256)", x.feed(256), BAD);
        due("13: feed(0)", x.feed(0), 1);
        due("13: feed(255)", x.feed(255), 2);
        due("14: wipe()", x.wipe(), 2);
        due("14: wipe()", x.wipe(), 0);
        for (int i = 1; i <= 250; i++) {
            due("13: feed", x.feed(32), i);
        }
        due("13: no room", x.feed(32), FULL);
        due("13: BAD goes ahead", x.feed(256), BAD);
        due("13: size", x.status(6), 250);
        due("15: 250 blanks", x.group(), -270);
        due("15: THE TAPE is empty", x.status(6), 0);
    }

    private static void groupReads() {
        InTwosInSpanish x = new InTwosInSpanish();
        due("15: one", read(x, "person 3 9 99"), 1);
        due("15: KIND", x.personOf(0, 0), 3);
        due("15: a", x.personOf(0, 1), 9);
        due("15: WORDS", x.personOf(0, 2), 99);
        due("15: no blanks, more blanks", read(x, "  person0 01 02;wrong1  ;words 0   7; minutes 09;absent12 "), 5);
        due("15: a NUMBER of two digits", x.personOf(1, 1), 1);
        due("15: WRONG", x.personOf(1, 3), 1);
        due("15: words", x.personOf(0, 2), 7);
        due("15: MINUTES", x.status(1), 9);
        due("15: ABSENT", x.status(2), 12);
        due("15: right", read(x, "right 01;right 0"), 2);
        due("15: not WRONG any more", x.status(5), 0);
        due("15: a GUEST right", read(x, "person 5 0 0;right 2;words 2 99"), 3);
        due("15: nothing was refused", x.status(12), 0);
    }

    private static void groupFaults() {
        String[] text = {"", "   ", "person", "person ", "person 0", "person 0 0 ", "person 0 0 0;", "person 0 0 0; ",
            ";", " ;", "person 0 0 0;;", "Person 0 0 0", "persona 0 0 0", "per son 0 0 0", "0", "person;", "person x",
            "person 6 0 0", "person 0 10 0", "person 0 0 100", "person 000 0 0", "person 0 0 0 0", "person 0 0 0 x",
            "person 0 0 0x", "person 0 0 -1", "person 0 0,0", "wrong 0", "person 0 0 0;wrong 1", "right 0", "words 0 1",
            "person 0 0 0;words 0 ", "minutes 0", "minutes 10", "absent 13", "absent 012", "minutes 4 ;absent",
            "person 5 0 0;wrong 0", "minutes 1\u00e9", "minutes\t1", "minutes 100", "wrong;", "words 00 5",
            "right", "right;minutes 4", "words", "words;minutes 4", "person 0 0;minutes 4", "minutes", "minutes;minutes 4",
            "absent", "absent;minutes 4", "personz 0 0 0", "person 0 0 0;wordz 0 0", "xords 0 0"};
        int[] fault = {0, 3, 6, 7, 8, 11, 13, 14,
            0, 1, 13, 0, 0, 0, 0, 6, 7,
            7, 9, 11, 7, 13, 13,
            12, 11, 10, 6, 19, 6, 6,
            21, 8, 8, 7, 7, 17,
            19, 9, 7, 8, 5, 6,
            5, 5, 5, 5, 10, 7, 7,
            6, 6, 0, 13, 0};
        InTwosInSpanish x = new InTwosInSpanish();
        for (int i = 0; i < text.length; i++) {
            if (i % 10 == 0) {
                x = new InTwosInSpanish();
            }
            due("15: '" + text[i] + "'", read(x, text[i]), -20 - fault[i]);
            due("15: it is refused", x.status(12), i % 10 + 1);
            due("15: THE TAPE is empty", x.status(6), 0);
            due("15: nobody came", x.status(0), 0);
        }
    }

    private static void groupComesWholeOrNot() {
        InTwosInSpanish x = new InTwosInSpanish();
        for (int n = 0; n < 7; n++) {
            x.person(0, 0, 0);
        }
        due("15: no room for a ninth", read(x, "minutes 7;person 1 1 1;person 0 0 0"), -43);
        due("15: nothing came", x.status(0), 7);
        due("15: MINUTES stay", x.status(1), 4);
        due("15: an eighth", read(x, "person 1 1 1"), 1);
        due("15: no room, its word", read(x, " person 9"), -21);
        due("15: no room, its word", read(x, "person"), -20);
        due("15: wrong and a FAULT", read(x, "wrong 0;words 1 50;absent 9;wrong 8"), -54);
        due("15: nobody is WRONG", x.status(5), 0);
        due("15: WORDS stay", x.status(4), 1);
        due("15: ABSENT stays", x.status(2), 1);
        due("15: all comes", read(x, "wrong 0;words 1 50;absent 9;wrong 7"), 4);
        due("15: WRONG", x.status(5), 2);
        due("15: WORDS", x.status(4), 51);
    }

    private static void personOf() {
        InTwosInSpanish x = six();
        x.wrong(4, true);
        x.talk(4, 2);
        x.talk(4, 0);
        due("16: KIND", x.personOf(4, 0), 4);
        due("16: a", x.personOf(4, 1), 5);
        due("16: WORDS", x.personOf(2, 2), 88);
        due("16: WRONG", x.personOf(3, 3), 0);
        due("16: MET", x.personOf(4, 4), 5);
        due("16: MET", x.personOf(0, 4), 16);
        due("16: personOf(0, 5)", x.personOf(0, 5), BAD);
        due("16: personOf(0, -1)", x.personOf(0, -1), BAD);
        due("16: personOf(6, 0)", x.personOf(6, 0), BAD);
    }

    private static void speaks() {
        InTwosInSpanish x = six();
        int[][] want = {
            {0, 32, 32, 32, 32, 32}, {18, 0, 18, 18, 18, 18}, {59, 59, 0, 59, 59, 59},
            {12, 0, 0, 0, 0, 0}, {24, 49, 49, 24, 0, 49}, {40, 40, 40, 40, 40, 0}};
        for (int p = 0; p < 6; p++) {
            for (int q = 0; q < 6; q++) {
                due("17: speaks(" + p + ", " + q + ")", x.speaks(p, q), p == q ? BAD : want[p][q]);
            }
        }
        due("17: speaks(0, 6)", x.speaks(0, 6), BAD);
        due("17: speaks(-1, 0)", x.speaks(-1, 0), BAD);
        x.words(0, 34);
        due("17: above by 24, no more", x.speaks(3, 0), 12);
        x.words(0, 35);
        due("17: above by 25", x.speaks(3, 0), 0);
        x.words(4, 50);
        due("17: BORED, above by 15, no more", x.speaks(4, 0), 45);
        x.words(4, 51);
        due("17: BORED, above by 16", x.speaks(4, 0), 22);
        x.tell(0, 1);
        x.words(1, 0);
        due("17: SHY, cut", x.speaks(1, 0), 2);
        due("17: GUEST", x.speaks(5, 0), 10);
    }

    private static void learns() {
        InTwosInSpanish x = six();
        int[][] want = {
            {0, 4, 3, 3, 4, 2}, {3, 0, 4, 1, 4, 1}, {3, 6, 0, 2, 8, 7},
            {2, 0, 1, 0, 0, 1}, {4, 5, 7, 1, 0, 6}, {0, 0, 0, 0, 0, 0}};
        for (int p = 0; p < 6; p++) {
            for (int q = 0; q < 6; q++) {
                due("18: learns(" + p + ", " + q + ")", x.learns(p, q), p == q ? BAD : want[p][q]);
            }
        }
        due("18: learns(6, 0)", x.learns(6, 0), BAD);
        x.words(2, 70);
        due("18: differ by 40, no more", x.learns(0, 2), 5);
        x.words(2, 71);
        due("18: differ by 41", x.learns(0, 2), 2);
    }

    private static void after() {
        InTwosInSpanish x = three();
        x.wrong(1, true);
        int[][] want = {{BAD, 0, 0}, {0, BAD, 1}, {0, 1, BAD}};
        for (int p = 0; p < 3; p++) {
            for (int q = 0; q < 3; q++) {
                due("19: after(" + p + ", " + q + ")", x.after(p, q), want[p][q]);
            }
        }
        x.words(2, 39);
        due("19: both SPEAK as much", x.after(2, 1), 0);
        due("19: both SPEAK as much", x.after(1, 2), 1);
        x.wrong(2, true);
        due("19: both are WRONG", x.after(2, 1), 1);
        x.person(5, 0, 0);
        x.words(1, 99);
        due("19: a GUEST", x.after(3, 1), 0);
        due("19: who talks with a GUEST", x.after(1, 3), 1);
        due("19: a GUEST mends", x.after(2, 3), 0);
        due("19: after(0, 4)", x.after(0, 4), BAD);
    }

    private static void share() {
        InTwosInSpanish x = six();
        due("20: share(0, 1)", x.share(0, 1), 640);
        due("20: share(1, 0)", x.share(1, 0), 360);
        due("20: share(0, 2)", x.share(0, 2), 351);
        due("20: share(2, 0)", x.share(2, 0), 648);
        due("20: share(2, 3)", x.share(2, 3), 1000);
        due("20: share(2, 2)", x.share(2, 2), BAD);
        due("20: share(2, 6)", x.share(2, 6), BAD);
    }

    private static void rounds() {
        InTwosInSpanish x = new InTwosInSpanish();
        int[] want = {0, 1, 1, 3, 3, 5, 5, 7, 7};
        for (int n = 0; n <= 8; n++) {
            due("21: rounds of " + n, x.rounds(), want[n]);
            x.person(0, 0, 0);
        }
        InTwosInSpanish y = six();
        int[][] partners = {{5, 4, 3, 2, 1, 0}, {2, 5, 0, 4, 3, 1}, {4, 3, 5, 1, 0, 2}, {1, 0, 4, 5, 2, 3},
            {3, 2, 1, 0, 5, 4}};
        for (int r = 0; r < 5; r++) {
            for (int p = 0; p < 6; p++) {
                due("22: partner(" + p + ", " + r + ")", y.partner(p, r), partners[r][p]);
                due("23: round", y.round(p, partners[r][p]), r);
            }
        }
        due("22: partner(0, 5)", y.partner(0, 5), BAD);
        due("22: partner(0, -1)", y.partner(0, -1), BAD);
        due("22: partner(6, 0)", y.partner(6, 0), BAD);
        due("23: round(2, 2)", y.round(2, 2), BAD);
        due("23: round(2, 6)", y.round(2, 6), BAD);
        due("23: round(-1, 2)", y.round(-1, 2), BAD);
    }

    private static void roundsOfOddPeople() {
        InTwosInSpanish x = persons(1, 2, 3, 4, 5);
        int[][] partners = {{NONE, 4, 3, 2, 1}, {2, NONE, 0, 4, 3}, {4, 3, NONE, 1, 0}, {1, 0, 4, NONE, 2},
            {3, 2, 1, 0, NONE}};
        for (int r = 0; r < 5; r++) {
            for (int p = 0; p < 5; p++) {
                due("22: partner(" + p + ", " + r + ") of five", x.partner(p, r), partners[r][p]);
            }
        }
        due("22: NONE isn't refused", x.status(12), 0);
        due("23: round(0, 5)", x.round(0, 5), BAD);
    }

    private static void tonight() {
        InTwosInSpanish x = six();
        due("24: how much", x.tonight(NONE), 23);
        int[] mates = {1, 0, 4, 5, 2, 3};
        for (int p = 0; p < 6; p++) {
            due("24: tonight(" + p + ")", x.tonight(p), mates[p]);
        }
        due("24: tonight(6)", x.tonight(6), BAD);
        due("24: tonight(-2)", x.tonight(-2), BAD);
        InTwosInSpanish y = persons(50, 50, 50);
        due("24: of several the first row", y.tonight(0), 0);
        due("24: of several the first row", y.tonight(1), 2);
        due("24: how much of three", y.tonight(NONE), 12);
        InTwosInSpanish z = persons(50, 50, 50, 50);
        due("24: of several the first row", z.tonight(0), 1);
        due("24: of several the first row", z.tonight(2), 3);
    }

    private static void rather() {
        due("25: rather() of six", six().rather(), 0);
        // both parted ways bring 15 and 16, but 2 and 3 would LEARN 6 each, not 4 and 5
        InTwosInSpanish x = new InTwosInSpanish();
        x.person(3, 0, 40);
        x.person(1, 0, 70);
        x.person(0, 0, 50);
        x.person(0, 0, 50);
        due("25: TONIGHT", x.tonight(0), 2);
        due("25: two who would rather", x.rather(), 1);
        // 0 sits out; with 1 he would LEARN 2, and 1 would LEARN 3, not 2
        InTwosInSpanish y = new InTwosInSpanish();
        y.person(3, 0, 0);
        y.person(0, 0, 20);
        y.person(2, 0, 90);
        due("25: who sits out", y.tonight(0), 0);
        due("25: who sits out LEARNS 0", y.rather(), 1);
        due("25: both must LEARN more", persons(50, 50, 50).rather(), 0);
    }

    private static void ahead() {
        InTwosInSpanish x = three();
        int[][] want = {{50, 30, 10}, {50, 34, 14}, {55, 34, 18}, {60, 39, 18}};
        for (int r = 0; r < 4; r++) {
            for (int p = 0; p < 3; p++) {
                due("26: ahead(" + p + ", " + r + ")", x.ahead(p, r), want[r][p]);
            }
        }
        due("26: ahead(0, 4)", x.ahead(0, 4), BAD);
        due("26: ahead(0, -1)", x.ahead(0, -1), BAD);
        due("26: ahead(3, 0)", x.ahead(3, 0), BAD);
        due("26: nothing is changed", x.status(4), 90);
        InTwosInSpanish y = persons(98, 97);
        due("26: 99 at most", y.ahead(0, 1), 99);
    }

    private static void spreadAndCured() {
        InTwosInSpanish x = three();
        x.wrong(1, true);
        int[] one = {2, 6, 2, 0};
        for (int r = 0; r < 4; r++) {
            due("27: spread(" + r + ")", x.spread(r), one[r]);
        }
        due("28: nobody need be put right", x.cured(0), 0);
        due("28: nobody need be put right", x.cured(1), 0);
        x.wrong(0, true);
        due("27: spread(3)", x.spread(3), 7);
        due("28: how many", x.cured(0), 1);
        due("28: the set", x.cured(1), 1);
        due("27: spread(4)", x.spread(4), BAD);
        due("27: spread(-1)", x.spread(-1), BAD);
        due("28: cured(2)", x.cured(2), BAD);
        due("28: cured(-1)", x.cured(-1), BAD);
        due("27: nothing is changed", x.status(5), 2);
        InTwosInSpanish y = persons(50, 50, 50, 50);
        y.wrong(1, true);
        y.wrong(3, true);
        due("28: all of them", y.cured(0), 2);
        due("28: all of them", y.cured(1), 10);
    }

    private static void listen() {
        InTwosInSpanish x = three();
        x.wrong(1, true);
        due("29: listen(0)", x.listen(0), 1);
        due("29: nobody who talks is WRONG", x.listen(1), NONE);
        due("29: the lesser of the pair", x.listen(2), 0);
        due("29: listen(3)", x.listen(3), BAD);
        due("29: listen(-1)", x.listen(-1), BAD);
        InTwosInSpanish y = persons(50, 50, 50, 50);
        y.wrong(1, true);
        y.wrong(3, true);
        // ROUND 0: 0 with 3, 1 with 2
        due("29: of several the first", y.listen(0), 0);
        y.words(1, 60);
        due("29: most by WRONG ones", y.listen(0), 1);
        y.words(0, 99);
        due("29: what right ones SPEAK doesn't count", y.listen(0), 1);
        y.wrong(0, true);
        due("29: both of a pair count", y.listen(0), 0);
        listenToSilentOnes();
    }

    private static void listenToSilentOnes() {
        InTwosInSpanish x = persons(50, 50, 90);
        x.person(3, 0, 10);
        due("29: nobody is WRONG", x.listen(2), NONE);
        x.wrong(3, true);
        // ROUND 2: 0 with 1, 2 with 3
        due("29: the only WRONG one SPEAKS nothing: the first of all pairs", x.listen(2), 0);
        x.words(3, 70);
        due("29: he SPEAKS", x.listen(2), 2);
        x.words(3, 10);
        x.words(0, 90);
        // ROUND 0: 0 with 3, 1 with 2
        due("29: he SPEAKS nothing in the first pair", x.listen(0), 0);
        x.wrong(2, true);
        due("29: one who SPEAKS ahead of one who doesn't", x.listen(0), 1);
        due("29: both WRONG, one of them SPEAKS", x.listen(2), 2);
        InTwosInSpanish y = persons(0, 0);
        y.person(3, 0, 0);
        y.person(0, 0, 49);
        y.person(0, 0, 0);
        y.wrong(2, true);
        // ROUND 0: 0 sits out, 1 with 4, 2 with 3
        due("29: who sits out is in no pair", y.listen(0), 1);
        // ROUND 2: 2 sits out
        due("29: the WRONG one sits out", y.listen(2), NONE);
    }

    private static void kinds() {
        InTwosInSpanish x = six();
        due("30: kinds(0, 1, 32)", x.kinds(0, 1, 32), 1);
        due("30: SHY and SILENT", x.kinds(0, 1, 16), 10);
        due("30: QUICK and BORED", x.kinds(0, 1, 33), 20);
        due("30: GUEST", x.kinds(0, 1, 40), 32);
        due("30: none", x.kinds(0, 1, 999), 0);
        due("30: SILENT", x.kinds(3, 2, 0), 8);
        due("30: BORED", x.kinds(4, 0, 24), 16);
        due("30: several", x.kinds(4, 1, 49), 20);
        due("30: kinds(0, 0, 1)", x.kinds(0, 0, 1), BAD);
        due("30: kinds(0, 1, -1)", x.kinds(0, 1, -1), BAD);
        due("30: kinds(0, 1, 1000)", x.kinds(0, 1, 1000), BAD);
        due("30: kinds(0, 6, 1)", x.kinds(0, 6, 1), BAD);
    }

    private static void spans() {
        InTwosInSpanish x = six();
        due("31: least", x.spans(0, 1, 32, 0), 30);
        due("31: greatest", x.spans(0, 1, 32, 1), 39);
        due("31: none", x.spans(0, 1, 33, 0), NONE);
        due("31: none", x.spans(0, 1, 33, 1), NONE);
        due("31: GUEST", x.spans(5, 1, 40, 0), 0);
        due("31: GUEST", x.spans(5, 1, 40, 1), 99);
        // a SILENT one with 80 SPEAKS nothing up to 55
        due("31: SILENT", x.spans(3, 2, 0, 0), 0);
        due("31: SILENT", x.spans(3, 2, 0, 1), 55);
        due("31: SILENT", x.spans(3, 2, 20, 0), 56);
        due("31: SILENT", x.spans(3, 2, 20, 1), 59);
        due("31: NONE isn't refused", x.status(12), 0);
        due("31: what 2", x.spans(0, 1, 32, 2), BAD);
        due("31: what -1", x.spans(0, 1, 32, -1), BAD);
        due("31: n 1000", x.spans(0, 1, 1000, 0), BAD);
        due("31: n -1", x.spans(0, 1, -1, 0), BAD);
        due("31: the same", x.spans(1, 1, 32, 0), BAD);
        due("31: nobody", x.spans(6, 1, 32, 0), BAD);
    }

    private static void hold() {
        InTwosInSpanish x = persons(50, 50);
        // by m MINUTES each SPEAKS 10m and LEARNS 15m by 10
        due("32: hold(0)", x.hold(0), 1);
        due("32: hold(2)", x.hold(2), 1);
        due("32: hold(3)", x.hold(3), 2);
        due("32: hold(26)", x.hold(26), 9);
        due("32: hold(27)", x.hold(27), NONE);
        due("32: hold(999)", x.hold(999), NONE);
        due("32: hold(1000)", x.hold(1000), BAD);
        due("32: hold(-1)", x.hold(-1), BAD);
        due("32: MINUTES stay", x.status(1), 4);
    }

    private static void stay() {
        InTwosInSpanish x = six();
        int[] want = {5, 5, 5, 4, 2, 0};
        for (int v = 0; v < 6; v++) {
            due("33: stay(0, " + v + ")", x.stay(0, v), want[v]);
        }
        due("33: stay(0, 999)", x.stay(0, 999), 0);
        due("33: stay(0, 1000)", x.stay(0, 1000), BAD);
        due("33: stay(0, -1)", x.stay(0, -1), BAD);
        due("33: stay(6, 0)", x.stay(6, 0), BAD);
        due("33: who sits out LEARNS 0, and no more", three().stay(0, 1), 2);
        due("33: who sits out LEARNS 0", three().stay(0, 0), 3);
    }

    private static void lesson() {
        InTwosInSpanish x = six();
        int[] want = {14, 8, 16, 23, 21};
        for (int r = 0; r < 5; r++) {
            due("34: lesson(" + r + ", 0)", x.lesson(r, 0), want[r]);
        }
        due("34: lesson(5, 0)", x.lesson(5, 0), BAD);
        due("34: lesson(-1, 0)", x.lesson(-1, 0), BAD);
        due("34: lesson(0, 2)", x.lesson(0, 2), BAD);
        due("34: lesson(0, -1)", x.lesson(0, -1), BAD);
        due("34: all ROUNDS", three().lesson(0, 1), 27);
        due("34: all ROUNDS, any r", three().lesson(Integer.MIN_VALUE, 1), 27);
        due("34: before WORDS are held", persons(99, 99).lesson(7, 1), 16);
    }

    private static void best() {
        InTwosInSpanish x = six();
        due("35: LEARNS most", x.best(0, 0), 1);
        due("35: LEARNS least", x.best(0, 1), 5);
        due("35: SPEAKS most", x.best(0, 2), 1);
        due("35: SPEAKS most", x.best(4, 2), 1);
        due("35: LEARNS most", x.best(1, 0), 2);
        due("35: LEARNS least, of several the first", x.best(1, 1), 3);
        due("35: SPEAKS most", x.best(3, 2), 0);
        due("35: a GUEST", x.best(5, 0), 0);
        due("35: best(0, 3)", x.best(0, 3), BAD);
        due("35: best(0, -1)", x.best(0, -1), BAD);
        due("35: best(6, 0)", x.best(6, 0), BAD);
        due("35: nobody else", persons(5).best(0, 1), NONE);
    }

    private static void first() {
        InTwosInSpanish x = persons(20, 10, 30, 10, 30);
        due("36: most WORDS", x.first(0), 2);
        due("36: fewest WORDS", x.first(1), 1);
        due("36: first(2)", x.first(2), BAD);
        due("36: first(-1)", x.first(-1), BAD);
        InTwosInSpanish y = new InTwosInSpanish();
        due("36: nobody", y.first(1), STUCK);
        due("36: BAD goes ahead", y.first(2), BAD);
        due("36: nothing at all", persons(0, 0).first(0), 0);
    }

    private static void silentGapNoise() {
        InTwosInSpanish x = six();
        int[] silent = {1, 1, 1, 1, 0};
        int[] gap = {70, 54, 35, 89, 39};
        int[] noise = {198, 173, 173, 198, 210};
        for (int r = 0; r < 5; r++) {
            due("37: silent(" + r + ")", x.silent(r), silent[r]);
            due("39: gap(" + r + ")", x.gap(r), gap[r]);
            due("46: noise(" + r + ")", x.noise(r), noise[r]);
        }
        int[] bad = {-1, 5};
        for (int r : bad) {
            due("37: silent BAD", x.silent(r), BAD);
            due("39: gap BAD", x.gap(r), BAD);
            due("46: noise BAD", x.noise(r), BAD);
        }
        InTwosInSpanish y = new InTwosInSpanish();
        y.person(3, 0, 0);
        due("37: who sits out doesn't talk", y.silent(0), 0);
        due("39: nobody talks", y.gap(0), 0);
        due("46: nobody talks", y.noise(0), 0);
        y.person(0, 0, 90);
        due("37: the first SPEAKS nothing", y.silent(0), 1);
        due("39: the second has more", y.gap(0), 90);
        due("39: the first has more", persons(70, 20).gap(0), 50);
    }

    private static void bestRound() {
        InTwosInSpanish x = six();
        due("38: most", x.bestRound(0), 3);
        due("38: least", x.bestRound(1), 1);
        due("38: bestRound(2)", x.bestRound(2), BAD);
        due("38: bestRound(-1)", x.bestRound(-1), BAD);
        InTwosInSpanish y = new InTwosInSpanish();
        due("38: no ROUNDS", y.bestRound(1), STUCK);
        due("38: BAD goes ahead", y.bestRound(2), BAD);
        due("38: of several the first", persons(50, 50, 50, 50).bestRound(0), 0);
        due("38: of several the first", persons(50, 50, 50, 50).bestRound(1), 0);
    }

    private static void minutesFor() {
        InTwosInSpanish x = persons(50, 50);
        due("40: minutesFor(0, 1, 0)", x.minutesFor(0, 1, 0), 1);
        due("40: minutesFor(0, 1, 1)", x.minutesFor(0, 1, 1), 1);
        due("40: minutesFor(0, 1, 2)", x.minutesFor(0, 1, 2), 2);
        due("40: minutesFor(0, 1, 13)", x.minutesFor(0, 1, 13), 9);
        due("40: minutesFor(0, 1, 14)", x.minutesFor(0, 1, 14), NONE);
        due("40: minutesFor(0, 1, 1000)", x.minutesFor(0, 1, 1000), BAD);
        due("40: minutesFor(0, 1, -1)", x.minutesFor(0, 1, -1), BAD);
        due("40: minutesFor(1, 1, 0)", x.minutesFor(1, 1, 0), BAD);
        due("40: minutesFor(0, 2, 0)", x.minutesFor(0, 2, 0), BAD);
        due("40: MINUTES stay", x.status(1), 4);
    }

    private static void gain() {
        InTwosInSpanish x = six();
        int[] want = {9, 15, 7, 0, 2};
        for (int r = 0; r < 5; r++) {
            due("41: gain(" + r + ")", x.gain(r), want[r]);
        }
        due("41: gain(5)", x.gain(5), BAD);
        due("41: gain(-1)", x.gain(-1), BAD);
    }

    private static void bestAway() {
        due("42: of six", six().bestAway(), 35);
        due("42: of several the first", persons(50, 50, 50, 50).bestAway(), 1);
        due("42: of two", persons(50, 50).bestAway(), 1);
        due("42: of one", persons(50).bestAway(), NONE);
        due("42: of three", three().bestAway(), 1);
        due("42: of five", persons(0, 0, 99, 99, 99).bestAway(), 1);
    }

    private static void often() {
        InTwosInSpanish x = persons(50, 50);
        // 50, 56, 62: from 60 on each SPEAKS 44
        due("43: often(0, 1, 0)", x.often(0, 1, 0), 0);
        due("43: often(0, 1, 50)", x.often(0, 1, 50), 0);
        due("43: often(0, 1, 51)", x.often(0, 1, 51), 1);
        due("43: often(0, 1, 57)", x.often(0, 1, 57), 2);
        due("43: often(0, 1, 62)", x.often(0, 1, 62), 2);
        due("43: often(0, 1, 63)", x.often(0, 1, 63), 3);
        due("43: often(0, 1, 100)", x.often(0, 1, 100), BAD);
        due("43: often(0, 1, -1)", x.often(0, 1, -1), BAD);
        due("43: often(1, 1, 0)", x.often(1, 1, 0), BAD);
        due("43: often(1, 2, 0)", x.often(1, 2, 0), BAD);
        due("43: nothing is changed", x.status(4) + x.met(), 100);
        // by 1 MINUTE a SHY one SPEAKS 2 and a GUEST 10: 7 by 10, nothing
        InTwosInSpanish y = new InTwosInSpanish();
        y.tell(0, 1);
        y.person(1, 0, 0);
        y.person(5, 0, 0);
        due("43: never", y.often(0, 1, 1), NONE);
        // by 3 MINUTES, far from a GUEST of 99, it LEARNS 1 a TALK up to 59, then 3
        y.tell(0, 3);
        y.words(1, 99);
        due("43: 58 TALKS", y.often(0, 1, 58), 58);
        due("43: 60 TALKS", y.often(0, 1, 60), 60);
        due("43: 60 TALKS", y.often(0, 1, 62), 60);
        due("43: 61 would be too many", y.often(0, 1, 63), NONE);
    }

    private static void unmetAndMet() {
        InTwosInSpanish x = persons(1, 2, 3, 4);
        due("44: unmet(1)", x.unmet(1), 13);
        due("45: met()", x.met(), 0);
        x.talk(1, 3);
        x.talk(3, 1);
        x.talk(0, 1);
        due("44: unmet(1)", x.unmet(1), 4);
        due("44: unmet(0)", x.unmet(0), 12);
        due("44: unmet(2)", x.unmet(2), 11);
        due("45: met()", x.met(), 2);
        due("44: unmet(4)", x.unmet(4), BAD);
        due("44: unmet(-1)", x.unmet(-1), BAD);
    }

    private static void allAndFair() {
        InTwosInSpanish x = six();
        int[] spoken = {160, 90, 295, 12, 195, 200};
        int[] gained = {16, 13, 26, 4, 23, 0};
        for (int p = 0; p < 6; p++) {
            due("47: all(" + p + ", 0)", x.all(p, 0), spoken[p]);
            due("47: all(" + p + ", 1)", x.all(p, 1), gained[p]);
        }
        due("47: all(0, 2)", x.all(0, 2), BAD);
        due("47: all(0, -1)", x.all(0, -1), BAD);
        due("47: all(6, 0)", x.all(6, 0), BAD);
        due("48: fair()", x.fair(), 26);
        due("48: nobody", new InTwosInSpanish().fair(), 0);
        due("48: all alike", persons(50, 50, 50).fair(), 0);
        // 5 and 5, 5 and 4, 4 and 4
        due("48: three", three().fair(), 2);
        due("48: three, the last LEARNS most", persons(10, 30, 50).fair(), 2);
    }

    private static void sitsOut() {
        InTwosInSpanish x = persons(1, 2, 3, 4, 5);
        for (int r = 0; r < 5; r++) {
            due("49: sitsOut(" + r + ")", x.sitsOut(r), r);
        }
        due("49: sitsOut(5)", x.sitsOut(5), BAD);
        due("49: sitsOut(-1)", x.sitsOut(-1), BAD);
        due("49: nobody does", six().sitsOut(0), NONE);
    }

    private static void mixedAndOfKind() {
        InTwosInSpanish x = persons(0, 0, 0);
        x.person(1, 0, 0);
        x.person(3, 0, 0);
        x.person(3, 0, 0);
        due("50: mixed(0, 0)", x.mixed(0, 0), 3);
        due("50: mixed(0, 1)", x.mixed(0, 1), 3);
        due("50: mixed(3, 0)", x.mixed(3, 0), 6);
        due("50: mixed(1, 1)", x.mixed(1, 1), 0);
        due("50: mixed(2, 2)", x.mixed(2, 2), 0);
        due("50: mixed(6, 0)", x.mixed(6, 0), BAD);
        due("50: mixed(0, -1)", x.mixed(0, -1), BAD);
        int[] want = {3, 1, 0, 2, 0, 0};
        for (int k = 0; k < 6; k++) {
            due("58: ofKind(" + k + ")", x.ofKind(k), want[k]);
        }
        due("58: ofKind(6)", x.ofKind(6), BAD);
        due("58: ofKind(-1)", x.ofKind(-1), BAD);
    }

    private static void turned() {
        InTwosInSpanish x = three();
        x.wrong(1, true);
        int[] to = {4, 0, 0};
        int[] from = {0, 0, 2};
        for (int r = 0; r < 3; r++) {
            due("51: turned(" + r + ", true)", x.turned(r, true), to[r]);
            due("51: turned(" + r + ", false)", x.turned(r, false), from[r]);
        }
        due("51: turned(3, true)", x.turned(3, true), BAD);
        due("51: turned(-1, false)", x.turned(-1, false), BAD);
        due("51: nothing is changed", x.status(5), 1);
    }

    private static void until() {
        InTwosInSpanish x = three();
        int[] v = {0, 90, 91, 98, 99, 107, 108, 117, 118, 999};
        int[] want = {0, 0, 1, 1, 2, 2, 3, 3, NONE, NONE};
        for (int i = 0; i < v.length; i++) {
            due("52: until(" + v[i] + ")", x.until(v[i]), want[i]);
        }
        due("52: until(1000)", x.until(1000), BAD);
        due("52: until(-1)", x.until(-1), BAD);
    }

    private static void likes() {
        InTwosInSpanish x = six();
        int[] want = {1, 4, 2, 3, 5};
        for (int i = 0; i < 5; i++) {
            due("53: likes(0, " + i + ")", x.likes(0, i), want[i]);
        }
        due("53: likes(0, 5)", x.likes(0, 5), BAD);
        due("53: likes(0, -1)", x.likes(0, -1), BAD);
        due("53: likes(6, 0)", x.likes(6, 0), BAD);
        due("53: a GUEST", x.likes(5, 4), 4);
        due("53: nobody else", persons(5).likes(0, 0), BAD);
    }

    private static void bestPair() {
        InTwosInSpanish x = six();
        due("54: most", x.bestPair(0), 24);
        due("54: least, of several the first", x.bestPair(1), 13);
        due("54: bestPair(2)", x.bestPair(2), BAD);
        due("54: bestPair(-1)", x.bestPair(-1), BAD);
        due("54: fewer than two", persons(5).bestPair(0), NONE);
        due("54: of several the first", persons(5, 5, 5).bestPair(0), 1);
        due("54: BAD goes ahead", persons(5).bestPair(2), BAD);
    }

    private static void fresh() {
        InTwosInSpanish x = persons(50, 50, 50, 50);
        due("55: as TONIGHT", x.fresh(0), 1);
        x.talk(0, 1);
        due("55: not with each other", x.fresh(0), 2);
        due("55: not with each other", x.fresh(3), 1);
        due("55: how much", x.fresh(NONE), 24);
        x.talk(0, 2);
        due("55: the last one", x.fresh(0), 3);
        x.talk(0, 3);
        due("55: it can't be", x.fresh(NONE), NONE);
        due("55: it can't be", x.fresh(2), NONE);
        due("55: TONIGHT can be", x.tonight(0), 1);
        x.person(0, 0, 50);
        due("55: with the new one", x.fresh(0), 0);
        due("55: fresh(5)", x.fresh(5), BAD);
        due("55: fresh(-2)", x.fresh(-2), BAD);
        due("55: NONE isn't refused", x.status(12), 2);
        InTwosInSpanish y = persons(50);
        due("55: one alone", y.fresh(0), 0);
        due("55: one alone", y.fresh(NONE), 0);
    }

    private static void harmAndDumb() {
        InTwosInSpanish x = three();
        x.wrong(1, true);
        due("56: harm(0)", x.harm(0), 0);
        due("56: harm(1)", x.harm(1), 4);
        due("56: harm(2)", x.harm(2), 2);
        due("56: harm(3)", x.harm(3), BAD);
        due("56: harm(-1)", x.harm(-1), BAD);
        x.wrong(2, true);
        due("56: harm(2)", x.harm(2), 2);
        x.wrong(0, true);
        due("56: harm(1), all are WRONG", x.harm(1), 5);
        InTwosInSpanish y = six();
        due("57: dumb(3)", y.dumb(3), 54);
        y.words(0, 99);
        due("57: dumb(3)", y.dumb(3), 55);
        due("57: dumb(0)", y.dumb(0), 0);
        due("57: dumb(6)", y.dumb(6), BAD);
        due("57: dumb(-1)", y.dumb(-1), BAD);
    }

    private static void judge() {
        InTwosInSpanish x = persons(50, 50, 50, 50);
        tellPairs(x, 0, 0, 0, 1, 2, 3, 0, 2, 3, 1, 0, 3, 1, 2);
        due("59: nothing is WRONG", x.judge(0, 6), NONE);
        due("59: no pair", x.judge(0, 0), NONE);
        due("59: fewer elements", x.judge(0, 7), BAD);
        x.set(0, 3, 1);
        due("59: talked already in its ROUND", x.judge(0, 6), 1);
        due("59: only the first pair", x.judge(0, 1), NONE);
        x.set(0, 3, 3);
        x.set(0, 4, 1);
        x.set(0, 5, 0);
        due("59: told already, the other way", x.judge(0, 6), 2);
        x.set(0, 1, 0);
        due("59: the same", x.judge(0, 6), 0);
        x.set(0, 1, 4);
        due("59: nobody", x.judge(0, 6), 0);
        x.set(0, 1, -1);
        due("59: nobody", x.judge(0, 6), 0);
        x.row(1, 3, 2);
        x.set(1, 1, (1L << 32) + 1);
        due("59: a long that is nobody's number", x.judge(1, 1), 0);
        x.row(2, 4, 2);
        x.set(2, 1, 5);
        due("59: booleans", x.judge(2, 1), NONE);
        x.show(3, 0);
        due("59: OTHER", x.judge(3, 1), OTHER);
        due("59: NOTHING", x.judge(4, 20), NOTHING);
        due("59: BAD n goes ahead", x.judge(4, 21), BAD);
        due("59: BAD n goes ahead", x.judge(3, -1), BAD);
        due("59: judge(8, 0)", x.judge(8, 0), BAD);
        InTwosInSpanish u = persons(1, 2, 3, 4, 5, 6);
        tellPairs(u, 0, 2, 0, 1, 2, 3, 4, 0);
        due("59: the third of a ROUND with one of the first", u.judge(0, 3), 2);
        u.set(0, 5, 5);
        due("59: the third of a ROUND", u.judge(0, 3), NONE);
        u.set(0, 4, 6);
        due("59: nobody, the other place", u.judge(0, 3), 2);
        InTwosInSpanish y = persons(1, 2, 3);
        tellPairs(y, 0, 2, 0, 1, 0, 2, 1, 2, 0, 1);
        due("59: a ROUND of three is one pair", y.judge(0, 4), 3);
        InTwosInSpanish z = persons(1);
        tellPairs(z, 0, 2, 0, 0);
        due("59: one alone", z.judge(0, 1), 0);
        due("59: one alone, no pair", z.judge(0, 0), NONE);
    }

    private static void learned() {
        InTwosInSpanish x = three();
        tellPairs(x, 0, 1, 1, 2, 0, 2, 1, 0);
        due("60: learned(0, 3)", x.learned(0, 3), 27);
        due("60: learned(0, 2)", x.learned(0, 2), 17);
        due("60: learned(0, 0)", x.learned(0, 0), 0);
        due("60: nothing is changed", x.status(4) + x.met(), 90);
        x.set(0, 2, 2);
        due("60: it is WRONG", x.learned(0, 3), STUCK);
        due("60: the first is not", x.learned(0, 1), 8);
        due("60: fewer elements", x.learned(0, 4), BAD);
        due("60: learned(0, 21)", x.learned(0, 21), BAD);
        due("60: learned(0, -1)", x.learned(0, -1), BAD);
        due("60: learned(8, 0)", x.learned(8, 0), BAD);
        due("60: NOTHING", x.learned(1, 0), NOTHING);
        x.show(1, 0);
        due("60: OTHER", x.learned(1, 0), OTHER);
        InTwosInSpanish y = persons(99, 99);
        tellPairs(y, 0, 0, 0, 1);
        due("60: before WORDS are held", y.learned(0, 1), 16);
    }

    private static void talk() {
        InTwosInSpanish x = three();
        x.wrong(1, true);
        due("61: talk(1, 2)", x.talk(1, 2), 8);
        due("61: WORDS", x.personOf(1, 2), 34);
        due("61: WORDS", x.personOf(2, 2), 14);
        due("61: WRONG", x.personOf(2, 3), 1);
        due("61: MET", x.personOf(1, 4), 4);
        due("61: MET", x.personOf(2, 4), 2);
        due("61: EVENINGS stay", x.status(3), 0);
        due("61: talk(1, 1)", x.talk(1, 1), BAD);
        due("61: talk(1, 3)", x.talk(1, 3), BAD);
        due("61: talk(-1, 0)", x.talk(-1, 0), BAD);
        InTwosInSpanish y = persons(99, 98);
        due("61: before WORDS are held", y.talk(0, 1), 16);
        due("61: 99 at most", y.status(4), 198);
    }

    private static void evening() {
        InTwosInSpanish x = three();
        x.wrong(0, true);
        due("62: evening(0)", x.evening(0), BAD);
        due("62: evening(4)", x.evening(4), BAD);
        due("62: evening(-1)", x.evening(-1), BAD);
        due("62: evening(2)", x.evening(2), 17);
        due("62: WORDS", x.personOf(0, 2), 55);
        due("62: WORDS", x.personOf(1, 2), 34);
        due("62: WORDS", x.personOf(2, 2), 18);
        due("62: WRONG", x.status(5), 2);
        due("62: EVENINGS", x.status(3), 1);
        due("62: MET", x.met(), 2);
        due("62: evening(1) of nobody", new InTwosInSpanish().evening(1), BAD);
    }

    private static void drawn() {
        // from SEED 1 on the DRAWS below 12 are 2, 6, 9
        InTwosInSpanish x = three();
        x.tell(1, 3);
        due("63: the first isn't there", x.drawn(1), 8);
        due("63: SEED", x.status(7), 662824084);
        due("63: MET", x.personOf(1, 4), 4);
        due("63: MET", x.personOf(0, 4), 0);
        due("63: EVENINGS", x.status(3), 1);
        InTwosInSpanish y = three();
        y.tell(1, 2);
        due("63: all are there, the last sits out", y.drawn(1), 10);
        due("63: MET", y.personOf(0, 4), 2);
        InTwosInSpanish z = three();
        z.tell(1, 7);
        due("63: one is there", z.drawn(1), 0);
        due("63: drawn(0)", z.drawn(0), BAD);
        due("63: drawn(41)", z.drawn(41), BAD);
        due("63: drawn(-1)", z.drawn(-1), BAD);
        due("63: drawn(40)", z.drawn(40) >= 0 ? 1 : 0, 1);
        due("63: EVENINGS", z.status(3), 41);
        InTwosInSpanish u = persons(99, 99);
        u.tell(1, 0);
        due("63: before WORDS are held", u.drawn(2), 32);
    }

    private static void seed() {
        InTwosInSpanish x = new InTwosInSpanish();
        due("64: seed(-2)", x.seed(-2), 1);
        due("64: seed(MIN)", x.seed(Integer.MIN_VALUE), -2);
        due("64: status(7)", x.status(7), Integer.MIN_VALUE);
        due("64: nothing is refused", x.status(12), 0);
        x.seed(1103527590);
        x.person(0, 0, 0);
        x.drawn(1);
        due("64: an int, wrapping", x.status(7), -1770082073);
    }

    private static void imageAndBack() {
        InTwosInSpanish x = three();
        x.wrong(1, true);
        due("65: image()", x.image(), 1);
        x.show(0, 2);
        x.evening(3);
        x.tell(0, 9);
        x.tell(1, 5);
        x.drawn(2);
        x.person(2, 7, 80);
        x.wrong(3, true);
        x.talk(3, 0);
        x.show(1, 3);
        x.row(2, 2, 1);
        x.set(2, 0, 8);
        x.feed('p');
        x.words(-1, 0);
        due("66: back()", x.back(), 1);
        int[] want = {3, 4, 1, 0, 90, 1, 1, 1, 2, -1, -1, -1, 1};
        for (int what = 0; what < want.length; what++) {
            due("66: status(" + what + ")", x.status(what), want[what]);
        }
        due("66: the same number", x.holds(0), 12);
        due("66: NOTHING", x.holds(1), NONE);
        due("66: a ROW stays", x.element(2, 0), 8);
        due("66: MET", x.met(), 0);
        due("66: WRONG", x.spread(0), 2);
        due("66: a new one is new", x.person(0, 1, 2), 3);
        due("66: a new one is not WRONG", x.personOf(3, 3), 0);
        due("66: a new one MET nobody", x.personOf(3, 4), 0);
        x.words(0, 1);
        due("66: back() once more", x.back(), 1);
        due("66: WORDS", x.personOf(0, 2), 50);
        x.words(0, 7);
        x.image();
        x.words(0, 8);
        x.back();
        due("65: the last image", x.personOf(0, 2), 7);
        InTwosInSpanish y = new InTwosInSpanish();
        due("66: nothing was", y.back(), STUCK);
        due("66: it is refused", y.status(15), 1);
        y.image();
        y.person(0, 0, 0);
        y.show(0, 0);
        due("66: nobody was kept", y.back(), 1);
        due("66: NOTHING in the first SHELF", y.holds(0), NONE);
    }

    private static void status() {
        InTwosInSpanish x = six();
        x.wrong(0, true);
        x.wrong(3, true);
        x.tell(0, 6);
        x.tell(1, 8);
        x.feed(1);
        x.show(2, 2);
        x.row(3, 0, 0);
        x.row(9, 0, 0);
        x.row(-9, 0, 0);
        x.set(2, 0, 0);
        x.set(5, 0, 0);
        x.set(5, 0, 0);
        x.set(5, 0, 0);
        x.wrong(5, true);
        for (int n = 0; n < 6; n++) {
            x.person(0, 0, 0);
        }
        int[] want = {8, 6, 8, 0, 324, 2, 1, 1, 2, -1, -1, -1, 2, 1, 3, 1, 4};
        for (int what = 0; what < want.length; what++) {
            due("67: status(" + what + ")", x.status(what), want[what]);
        }
        due("67: status(17)", x.status(17), NONE);
        due("67: status(-1)", x.status(-1), NONE);
        due("67: status(MIN)", x.status(Integer.MIN_VALUE), NONE);
        due("67: NONE isn't refused", x.status(12), 2);
    }

    private static void refusalsChangeNothing() {
        InTwosInSpanish x = three();
        x.feed('x');
        x.row(0, 0, 4);
        x.show(1, 1);
        x.talk(5, 0);
        x.evening(9);
        x.drawn(0);
        x.words(0, 100);
        x.wrong(9, true);
        x.tell(0, 0);
        x.set(0, 9, 1);
        x.copy(0, 0, 0, 1, 4);
        x.row(0, 9, 4);
        x.show(1, 9);
        x.back();
        x.person(0, 0, 100);
        x.feed(300);
        int[] want = {3, 4, 1, 0, 90, 0, 1, 1, 2};
        for (int what = 0; what < want.length; what++) {
            due("REFUSALS: status(" + what + ")", x.status(what), want[what]);
        }
        due("REFUSALS: holds(0)", x.holds(0), 0);
        due("REFUSALS: holds(1)", x.holds(1), 11);
        due("REFUSALS: BAD", x.status(12), 12);
        due("REFUSALS: STUCK", x.status(15), 1);
        due("REFUSALS: MET", x.met(), 0);
    }

    /** Eight PERSONS who SPEAK 40 and LEARN 6 each with each. */
    private static void eightAlike() {
        InTwosInSpanish x = persons(50, 50, 50, 50, 50, 50, 50, 50);
        due("21: rounds()", x.rounds(), 7);
        due("24: how much", x.tonight(NONE), 48);
        due("24: tonight(7)", x.tonight(7), 6);
        due("25: rather()", x.rather(), 0);
        due("32: hold(48)", x.hold(48), 4);
        due("33: stay(7, 6)", x.stay(7, 6), 7);
        due("34: lesson(6, 0)", x.lesson(6, 0), 48);
        due("35: best(7, 0)", x.best(7, 0), 0);
        due("36: first(0)", x.first(0), 0);
        due("37: silent(6)", x.silent(6), 0);
        due("38: bestRound(0)", x.bestRound(0), 0);
        due("39: gap(6)", x.gap(6), 0);
        due("41: gain(6)", x.gain(6), 0);
        due("42: bestAway()", x.bestAway(), 1);
        due("44: unmet(7)", x.unmet(7), 127);
        due("46: noise(6)", x.noise(6), 320);
        due("47: all(7, 0)", x.all(7, 0), 280);
        due("47: all(7, 1)", x.all(7, 1), 42);
        due("48: fair()", x.fair(), 0);
        due("49: sitsOut(6)", x.sitsOut(6), NONE);
        due("50: mixed(0, 0)", x.mixed(0, 0), 28);
        due("53: likes(7, 6)", x.likes(7, 6), 6);
        due("53: likes(0, 6)", x.likes(0, 6), 7);
        due("53: likes(6, 0)", x.likes(6, 0), 0);
        due("54: bestPair(0)", x.bestPair(0), 1);
        due("55: fresh(NONE)", x.fresh(NONE), 48);
        due("57: dumb(7)", x.dumb(7), 0);
        due("58: ofKind(0)", x.ofKind(0), 8);
        for (int p = 0; p < 8; p++) {
            x.wrong(p, true);
        }
        due("27: spread(7)", x.spread(7), 255);
        due("28: cured(0)", x.cured(0), 8);
        due("28: cured(1)", x.cured(1), 255);
        due("29: listen(6)", x.listen(6), 0);
        due("51: turned(6, false)", x.turned(6, false), 0);
        due("56: harm(7)", x.harm(7), 127);
        due("62: four TALKS", x.evening(1), 48);
        due("52: until(448)", x.until(448), 0);
        due("26: ahead(7, 1)", x.ahead(7, 1), 62);
        x.tell(1, 0);
        due("63: four TALKS", x.drawn(1), 48);
        due("45: met()", x.met(), 8);
        due("62: seven ROUNDS", x.evening(7) > 0 ? 1 : 0, 1);
        due("45: met()", x.met(), 28);
        due("55: it can't be", x.fresh(7), NONE);
    }
}
