import java.io.IOException;

/** Promises 17 to 58, sentence by sentence, at their boundary cases. */
public final class EdgesOfQuestionsTest {
    private static final int NONE = InTwosInSpanish.NONE;
    private static final int BAD = -2;
    private static final int STUCK = -5;
    private static final int MIN = Integer.MIN_VALUE;
    private static final int MAX = Integer.MAX_VALUE;
    private static final String NOT_REFUSED = "(NONE isn't refused.)";
    /** What each of the six SPEAKS and LEARNS with each. */
    private static final int[][] SPOKEN = {{0, 32, 32, 32, 32, 32}, {18, 0, 18, 18, 18, 18}, {59, 59, 0, 59, 59, 59},
        {12, 0, 0, 0, 0, 0}, {24, 49, 49, 24, 0, 49}, {40, 40, 40, 40, 40, 0}};
    private static final int[][] GAINED = {{0, 4, 3, 3, 4, 2}, {3, 0, 4, 1, 4, 1}, {3, 6, 0, 2, 8, 7}, {2, 0, 1, 0, 0, 1},
        {4, 5, 7, 1, 0, 6}, {0, 0, 0, 0, 0, 0}};
    /** With whom each of the six talks in each ROUND. */
    private static final int[][] MATES = {{5, 4, 3, 2, 1, 0}, {2, 5, 0, 4, 3, 1}, {4, 3, 5, 1, 0, 2}, {1, 0, 4, 5, 2, 3},
        {3, 2, 1, 0, 5, 4}};

    private final Sentences t;
    private final Sentences.World six = Worlds::shelved;
    private final Sentences.World nobody = Worlds::nobody;
    private final Sentences.World one = () -> Worlds.persons(50);
    private final Sentences.World two = () -> Worlds.persons(50, 50);
    private final Sentences.World three = () -> Worlds.persons(50, 30, 10);
    private final Sentences.World eight = Worlds::eight;

    private EdgesOfQuestionsTest(Sentences t) {
        this.t = t;
    }

    public static void main(String[] args) throws IOException {
        Sentences t = new Sentences();
        EdgesOfQuestionsTest test = new EdgesOfQuestionsTest(t);
        test.speaks();
        test.learns();
        test.after();
        test.share();
        test.rounds();
        test.partner();
        test.round();
        test.tonight();
        test.rather();
        test.ahead();
        test.spread();
        test.cured();
        test.listen();
        test.kinds();
        test.spans();
        test.hold();
        test.stay();
        test.lesson();
        test.best();
        test.first();
        test.silent();
        test.bestRound();
        test.gap();
        test.minutesFor();
        test.gain();
        test.bestAway();
        test.often();
        test.unmet();
        test.met();
        test.noise();
        test.all();
        test.fair();
        test.sitsOut();
        test.mixed();
        test.turned();
        test.until();
        test.likes();
        test.bestPair();
        test.fresh();
        test.harm();
        test.dumb();
        test.ofKind();
        t.end();
    }

    private static InTwosInSpanish wrongOf(InTwosInSpanish x, int set) {
        for (int p = 0; p < 8; p++) {
            if ((set >> p & 1) != 0) {
                x.wrong(p, true);
            }
        }
        return x;
    }

    private static InTwosInSpanish talked(InTwosInSpanish x, int... pairs) {
        for (int i = 0; i + 1 < pairs.length; i += 2) {
            x.talk(pairs[i], pairs[i + 1]);
        }
        return x;
    }

    /** Of the six: both must be there and be two; what else is asked comes behind them. */
    private void twoOfSix(String method, long... rest) {
        long[] beyond = {-1, 6, MIN, MAX};
        for (long v : beyond) {
            t.refused(six, BAD, method, joined(v, 0, rest));
            t.refused(six, BAD, method, joined(0, v, rest));
            t.refused(six, BAD, method, joined(v, v, rest));
        }
        for (int p = 0; p < 6; p++) {
            t.refused(six, BAD, method, joined(p, p, rest));
        }
        t.taken(six, method, joined(0, 5, rest));
        t.taken(six, method, joined(5, 0, rest));
        t.refused(nobody, BAD, method, joined(0, 1, rest));
        t.refused(one, BAD, method, joined(0, 1, rest));
        t.refused(one, BAD, method, joined(0, 0, rest));
    }

    private static long[] joined(long p, long q, long... rest) {
        long[] a = new long[2 + rest.length];
        a[0] = p;
        a[1] = q;
        System.arraycopy(rest, 0, a, 2, rest.length);
        return a;
    }

    private void oneOfSix(String method, long... good) {
        t.range(six, method, 0, 0, 5, good);
        long[] a = good.clone();
        a[0] = 0;
        t.refused(nobody, BAD, method, a);
    }

    private void roundOfSix(String method, long... good) {
        t.range(six, method, 0, 0, 4, good);
        t.range(one, method, 0, 0, 0, good);
        t.range(three, method, 0, 0, 2, good);
        t.range(eight, method, 0, 0, 6, good);
        long[] a = good.clone();
        a[0] = 0;
        t.refused(nobody, BAD, method, a);
    }

    private void speaks() {
        t.promise(17);
        t.sentence("What one SPEAKS with another one.");
        for (int p = 0; p < 6; p++) {
            for (int q = 0; q < 6; q++) {
                if (p != q) {
                    t.asked(six, SPOKEN[p][q], "speaks", p, q);
                }
            }
        }
        t.sentence("BAD: also the same.");
        twoOfSix("speaks");
    }

    private void learns() {
        t.promise(18);
        t.sentence("What one LEARNS with another one.");
        for (int p = 0; p < 6; p++) {
            for (int q = 0; q < 6; q++) {
                if (p != q) {
                    t.asked(six, GAINED[p][q], "learns", p, q);
                }
            }
        }
        t.sentence("BAD: also the same.");
        twoOfSix("learns");
    }

    private void after() {
        t.promise(19);
        t.sentence("Whether one would be WRONG behind a TALK with another one: 1, 0.");
        // 3 is WRONG and SPEAKS less than each
        for (int p = 0; p < 6; p++) {
            if (p != 3) {
                t.asked(six, 0, "after", 3, p);
                t.asked(six, 0, "after", p, 3);
            }
        }
        Sentences.World first = () -> wrongOf(Worlds.persons(50, 50, 40, 60), 1);
        t.asked(first, 1, "after", 0, 1);
        t.asked(first, 0, "after", 1, 0);
        t.asked(first, 1, "after", 0, 2);
        t.asked(first, 1, "after", 2, 0);
        t.asked(first, 0, "after", 0, 3);
        t.asked(first, 0, "after", 3, 0);
        t.asked(first, 0, "after", 1, 2);
        t.sentence("BAD: also the same.");
        twoOfSix("after");
    }

    private void share() {
        t.promise(20);
        t.sentence("Of 1000 (cut) of all WORDS SPOKEN by both, how many are the one's.");
        t.asked(six, 351, "share", 0, 2);
        t.asked(six, 648, "share", 2, 0);
        t.asked(six, 0, "share", 3, 2);
        t.asked(six, 1000, "share", 2, 3);
        t.asked(two, 500, "share", 0, 1);
        t.sentence("BAD: also the same; STUCK: nobody SPEAKS.");
        twoOfSix("share");
        // nobody SPEAKS: that can't come, as of two SILENT ones not both are above the other one
        for (int words = 0; words <= 99; words += 33) {
            int others = words;
            t.taken(() -> Worlds.people(3, 0, 0, 3, 0, others), "share", 0, 1);
            t.taken(() -> Worlds.people(3, 0, 0, 3, 0, others), "share", 1, 0);
        }
    }

    private void rounds() {
        t.promise(21);
        t.sentence("How many ROUNDS there are.");
        t.asked(nobody, 0, "rounds");
        t.asked(one, 1, "rounds");
        t.asked(two, 1, "rounds");
        t.asked(three, 3, "rounds");
        t.asked(six, 5, "rounds");
        t.asked(() -> Worlds.persons(1, 1, 1, 1, 1, 1, 1), 7, "rounds");
        t.asked(eight, 7, "rounds");
    }

    private void partner() {
        t.promise(22);
        t.sentence("With whom one talks in ROUND r; NONE: he sits out.");
        for (int r = 0; r < 5; r++) {
            for (int p = 0; p < 6; p++) {
                t.asked(six, MATES[r][p], "partner", p, r);
            }
        }
        t.asked(two, 1, "partner", 0, 0);
        t.asked(three, 2, "partner", 1, 0);
        t.sentence("BAD.");
        oneOfSix("partner", 0, 0);
        t.range(six, "partner", 1, 0, 4, 0, 0);
        t.range(one, "partner", 1, 0, 0, 0, 0);
        // the one who isn't there, with whom an odd one would talk
        t.refused(three, BAD, "partner", 3, 0);
        t.sentence(NOT_REFUSED);
        t.asked(one, NONE, "partner", 0, 0);
        for (int r = 0; r < 3; r++) {
            t.asked(three, NONE, "partner", r, r);
        }
    }

    private void round() {
        t.promise(23);
        t.sentence("In which ROUND two talk.");
        for (int r = 0; r < 5; r++) {
            for (int p = 0; p < 6; p++) {
                t.asked(six, r, "round", p, MATES[r][p]);
            }
        }
        t.asked(two, 0, "round", 1, 0);
        t.sentence("BAD: also the same.");
        twoOfSix("round");
        t.refused(three, BAD, "round", 0, 3);
    }

    private void tonight() {
        t.promise(24);
        t.sentence("TONIGHT: how much (person NONE), whom one has.");
        t.asked(six, 23, "tonight", NONE);
        int[] mates = {1, 0, 4, 5, 2, 3};
        for (int p = 0; p < 6; p++) {
            t.asked(six, mates[p], "tonight", p);
        }
        t.asked(nobody, 0, "tonight", NONE);
        t.asked(one, 0, "tonight", NONE);
        t.asked(one, 0, "tonight", 0);
        t.asked(two, 12, "tonight", NONE);
        // MET doesn't matter
        t.asked(() -> talked(Worlds.persons(50, 50), 0, 1), 1, "tonight", 0);
        t.sentence("BAD.");
        t.range(six, "tonight", 0, NONE, 5, 0);
        t.range(nobody, "tonight", 0, NONE, NONE, 0);
    }

    private void rather() {
        t.promise(25);
        t.sentence("RATHER.");
        t.asked(nobody, 0, "rather");
        t.asked(one, 0, "rather");
        t.asked(two, 0, "rather");
        t.asked(six, 0, "rather");
        t.asked(() -> Worlds.people(3, 0, 40, 1, 0, 70, 0, 0, 50, 0, 0, 50), 1, "rather");
        t.asked(() -> Worlds.people(3, 0, 0, 0, 0, 20, 2, 0, 90), 1, "rather");
        // 2 sits out and would LEARN just 1 with 0, who would LEARN 3, not 2
        t.asked(() -> Worlds.people(0, 0, 30, 0, 0, 80, 3, 0, 0), 1, "rather");
        // MET doesn't matter
        t.asked(() -> talked(Worlds.people(0, 0, 30, 0, 0, 80, 3, 0, 0), 0, 1), 1, "rather");
    }

    private void ahead() {
        t.promise(26);
        t.sentence("AHEAD r ROUNDS: WORDS of one.");
        t.asked(three, 50, "ahead", 0, 0);
        t.asked(three, 10, "ahead", 2, 0);
        t.asked(three, 60, "ahead", 0, 3);
        t.asked(three, 18, "ahead", 2, 3);
        t.asked(one, 50, "ahead", 0, 1);
        t.asked(six, 99, "ahead", 5, 5);
        t.asked(() -> Worlds.persons(99, 99), 99, "ahead", 1, 1);
        t.sentence("BAD.");
        oneOfSix("ahead", 0, 0);
        t.range(six, "ahead", 1, 0, 5, 0, 0);
        t.range(three, "ahead", 1, 0, 3, 0, 0);
        t.range(one, "ahead", 1, 0, 1, 0, 0);
    }

    private void spread() {
        t.promise(27);
        t.sentence("AHEAD r ROUNDS: WRONG ones (bits).");
        Sentences.World wrong = () -> wrongOf(Worlds.persons(50, 30, 10), 1);
        int[] want = {1, 1, 5, 7};
        for (int r = 0; r <= 3; r++) {
            t.asked(wrong, want[r], "spread", r);
        }
        t.asked(() -> wrongOf(Worlds.eight(), 255), 255, "spread", 7);
        t.asked(nobody, 0, "spread", 0);
        t.sentence("BAD.");
        t.range(six, "spread", 0, 0, 5, 0);
        t.range(three, "spread", 0, 0, 3, 0);
        t.range(one, "spread", 0, 0, 1, 0);
        t.range(nobody, "spread", 0, 0, 0, 0);
    }

    private void cured() {
        t.promise(28);
        t.sentence("CURED: how many (what 0; NONE), the set (1; NONE).");
        t.asked(nobody, 0, "cured", 0);
        t.asked(nobody, 0, "cured", 1);
        t.asked(() -> wrongOf(Worlds.persons(50, 30, 10), 7), 1, "cured", 0);
        t.asked(() -> wrongOf(Worlds.persons(50, 30, 10), 7), 1, "cured", 1);
        t.asked(() -> wrongOf(Worlds.persons(10, 30, 50), 7), 4, "cured", 1);
        t.asked(() -> wrongOf(Worlds.persons(50, 30, 10), 6), 0, "cured", 0);
        t.asked(() -> wrongOf(Worlds.eight(), 129), 2, "cured", 0);
        t.asked(() -> wrongOf(Worlds.eight(), 129), 129, "cured", 1);
        t.sentence("BAD.");
        t.range(six, "cured", 0, 0, 1, 0);
        t.range(nobody, "cured", 0, 0, 1, 0);
        t.sentence(NOT_REFUSED);
        t.taken(() -> wrongOf(Worlds.eight(), 255), "cured", 0);
        t.taken(() -> wrongOf(Worlds.persons(50), 1), "cured", 1);
    }

    private void listen() {
        t.promise(29);
        t.sentence("LISTEN; NONE.");
        // ROUND 0: 0 with 7, 1 with 6, 2 with 5, 3 with 4
        t.asked(() -> wrongOf(Worlds.eight(), 255), 0, "listen", 0);
        t.asked(() -> wrongOf(Worlds.eight(), 16), 3, "listen", 0);
        t.asked(() -> wrongOf(Worlds.eight(), 48), 2, "listen", 0);
        t.asked(() -> wrongOf(Worlds.eight(), 56), 3, "listen", 0);
        // 0 and 7 SPEAK 20 each, 1 SPEAKS 40 with 6, who is right: what right ones SPEAK doesn't count
        t.asked(() -> wrongOf(Worlds.persons(0, 50, 0, 0, 0, 0, 50, 0), 131), 0, "listen", 0);
        // ROUND 6: 6 with 7
        t.asked(() -> wrongOf(Worlds.eight(), 128), 6, "listen", 6);
        t.sentence("BAD: no such ROUND.");
        roundOfSix("listen", 0);
        t.sentence(NOT_REFUSED);
        t.asked(eight, NONE, "listen", 6);
        t.asked(one, NONE, "listen", 0);
        t.asked(() -> wrongOf(Worlds.persons(50), 1), NONE, "listen", 0);
        t.asked(() -> wrongOf(Worlds.persons(50, 50, 50), 4), NONE, "listen", 2);
    }

    private void kinds() {
        t.promise(30);
        t.sentence("KINDS of one who SPOKE n (0 to 999) with another one.");
        t.asked(six, 8, "kinds", 3, 2, 0);
        t.asked(six, 0, "kinds", 0, 1, 0);
        t.asked(six, 32, "kinds", 0, 1, 40);
        t.asked(six, 20, "kinds", 0, 1, 33);
        t.asked(six, 10, "kinds", 0, 1, 16);
        t.asked(six, 1, "kinds", 0, 1, 32);
        t.asked(six, 0, "kinds", 0, 1, 999);
        t.asked(two, 53, "kinds", 1, 0, 40);
        t.range(six, "kinds", 2, 0, 999, 0, 1, 0);
        t.sentence("BAD: also the same.");
        twoOfSix("kinds", 0);
        t.refused(six, BAD, "kinds", 0, 0, 1000);
    }

    private void spans() {
        t.promise(31);
        t.sentence("SPANS of one who SPOKE n (0 to 999) with another one: least (what 0), greatest (1); NONE.");
        t.asked(six, 0, "spans", 0, 1, 20, 0);
        t.asked(six, 9, "spans", 0, 1, 20, 1);
        t.asked(six, 90, "spans", 0, 1, 56, 0);
        t.asked(six, 99, "spans", 0, 1, 56, 1);
        t.asked(six, 0, "spans", 3, 2, 0, 0);
        t.asked(six, 55, "spans", 3, 2, 0, 1);
        t.range(six, "spans", 2, 0, 999, 0, 1, 0, 0);
        t.range(six, "spans", 3, 0, 1, 0, 1, 20, 0);
        t.sentence("BAD: also the same.");
        twoOfSix("spans", 0, 0);
        twoOfSix("spans", 20, 1);
        t.sentence(NOT_REFUSED);
        t.asked(six, NONE, "spans", 0, 1, 999, 0);
        t.asked(six, NONE, "spans", 0, 1, 999, 1);
        t.asked(six, NONE, "spans", 0, 1, 0, 0);
        t.asked(six, NONE, "spans", 5, 1, 41, 1);
    }

    private void hold() {
        t.promise(32);
        t.sentence("HOLD by v (0 to 999); NONE.");
        t.asked(two, 1, "hold", 0);
        t.asked(two, 1, "hold", 2);
        t.asked(two, 2, "hold", 3);
        t.asked(two, 9, "hold", 26);
        t.asked(() -> talked(Worlds.persons(50, 50), 0, 1), 9, "hold", 26);
        t.range(two, "hold", 0, 0, 999, 0);
        t.sentence("BAD.");
        t.range(six, "hold", 0, 0, 999, 0);
        t.range(nobody, "hold", 0, 0, 999, 0);
        t.sentence(NOT_REFUSED);
        t.asked(two, NONE, "hold", 27);
        t.asked(eight, NONE, "hold", 999);
        t.asked(nobody, NONE, "hold", 1);
    }

    private void stay() {
        t.promise(33);
        t.sentence("STAY of one by v (0 to 999).");
        int[] want = {5, 5, 5, 4, 2, 0};
        for (int v = 0; v < 6; v++) {
            t.asked(six, want[v], "stay", 0, v);
        }
        t.asked(six, 5, "stay", 5, 0);
        t.asked(six, 0, "stay", 5, 1);
        t.asked(six, 0, "stay", 0, 999);
        t.asked(one, 0, "stay", 0, 1);
        t.sentence("BAD.");
        oneOfSix("stay", 0, 0);
        t.range(six, "stay", 1, 0, 999, 0, 0);
    }

    private void lesson() {
        t.promise(34);
        t.sentence("How much all LEARN together in ROUND r, as all are now (what 0),");
        int[] want = {14, 8, 16, 23, 21};
        for (int r = 0; r < 5; r++) {
            t.asked(six, want[r], "lesson", r, 0);
        }
        t.asked(one, 0, "lesson", 0, 0);
        t.asked(three, 8, "lesson", 0, 0);
        t.sentence("in all ROUNDS one behind the other (1; r any number).");
        int[] any = {MIN, -1, 0, 2, 3, MAX};
        for (int r : any) {
            t.asked(three, 27, "lesson", r, 1);
            t.asked(nobody, 0, "lesson", r, 1);
            t.asked(one, 0, "lesson", r, 1);
        }
        t.asked(() -> Worlds.persons(99, 99), 16, "lesson", 0, 1);
        t.sentence("BAD.");
        roundOfSix("lesson", 0, 0);
        t.range(six, "lesson", 1, 0, 1, 0, 0);
        t.refused(six, BAD, "lesson", 99, 2);
    }

    private void best() {
        t.promise(35);
        t.sentence("With whom one LEARNS most (what 0), least (1), SPEAKS most (2), of several the first; NONE: nobody else.");
        int[][] want = {{1, 5, 1}, {2, 3, 0}, {4, 3, 0}, {0, 1, 0}, {2, 3, 1}, {0, 0, 0}};
        for (int p = 0; p < 6; p++) {
            for (int what = 0; what < 3; what++) {
                t.asked(six, want[p][what], "best", p, what);
            }
        }
        for (int what = 0; what < 3; what++) {
            t.asked(eight, 1, "best", 0, what);
            t.asked(eight, 0, "best", 7, what);
            t.asked(two, 0, "best", 1, what);
        }
        t.sentence("BAD.");
        oneOfSix("best", 0, 0);
        t.range(six, "best", 1, 0, 2, 0, 0);
        t.refused(one, BAD, "best", 0, 3);
        t.sentence(NOT_REFUSED);
        for (int what = 0; what < 3; what++) {
            t.asked(one, NONE, "best", 0, what);
        }
    }

    private void first() {
        t.promise(36);
        t.sentence("Who has most WORDS (what 0), fewest (1), of several the first.");
        t.asked(six, 5, "first", 0);
        t.asked(six, 3, "first", 1);
        t.asked(eight, 0, "first", 0);
        t.asked(eight, 0, "first", 1);
        t.asked(() -> Worlds.persons(5, 0, 9, 0, 9), 2, "first", 0);
        t.asked(() -> Worlds.persons(5, 0, 9, 0, 9), 1, "first", 1);
        t.asked(() -> Worlds.persons(0), 0, "first", 0);
        t.asked(() -> Worlds.persons(0), 0, "first", 1);
        t.sentence("BAD; STUCK: nobody.");
        t.range(six, "first", 0, 0, 1, 0);
        t.refused(nobody, STUCK, "first", 0);
        t.refused(nobody, STUCK, "first", 1);
        t.refused(nobody, BAD, "first", 2);
        t.refused(nobody, BAD, "first", -1);
    }

    private void silent() {
        t.promise(37);
        t.sentence("How many would SPEAK nothing in ROUND r, of those who talk.");
        int[] want = {1, 1, 1, 1, 0};
        for (int r = 0; r < 5; r++) {
            t.asked(six, want[r], "silent", r);
        }
        t.asked(() -> Worlds.people(3, 0, 0), 0, "silent", 0);
        t.asked(() -> Worlds.people(3, 0, 0, 0, 0, 20), 0, "silent", 0);
        t.asked(() -> Worlds.people(3, 0, 0, 0, 0, 21), 1, "silent", 0);
        t.asked(() -> Worlds.people(3, 0, 0, 3, 0, 0, 5, 0, 99, 5, 0, 99), 2, "silent", 0);
        t.sentence("BAD: no such ROUND.");
        roundOfSix("silent", 0);
    }

    private void bestRound() {
        t.promise(38);
        t.sentence("The ROUND in which all LEARN most (what 0), least (1), of several the first.");
        t.asked(six, 3, "bestRound", 0);
        t.asked(six, 1, "bestRound", 1);
        t.asked(eight, 0, "bestRound", 0);
        t.asked(eight, 0, "bestRound", 1);
        t.asked(one, 0, "bestRound", 0);
        t.asked(one, 0, "bestRound", 1);
        // 8, 9 and 10
        t.asked(three, 2, "bestRound", 0);
        t.asked(three, 0, "bestRound", 1);
        // 8, 10 and 10
        t.asked(() -> Worlds.persons(50, 30, 30), 1, "bestRound", 0);
        // 6, 4 and 4
        t.asked(() -> Worlds.persons(50, 0, 0), 1, "bestRound", 1);
        t.sentence("BAD; STUCK: no ROUNDS.");
        t.range(six, "bestRound", 0, 0, 1, 0);
        t.refused(nobody, STUCK, "bestRound", 0);
        t.refused(nobody, STUCK, "bestRound", 1);
        t.refused(nobody, BAD, "bestRound", 2);
        t.refused(nobody, BAD, "bestRound", -1);
    }

    private void gap() {
        t.promise(39);
        t.sentence("The greatest difference of WORDS of two who talk in ROUND r; 0: nobody does.");
        int[] want = {70, 54, 35, 89, 39};
        for (int r = 0; r < 5; r++) {
            t.asked(six, want[r], "gap", r);
        }
        t.asked(one, 0, "gap", 0);
        t.asked(two, 0, "gap", 0);
        t.asked(() -> Worlds.persons(0, 99), 99, "gap", 0);
        t.asked(() -> Worlds.persons(99, 0), 99, "gap", 0);
        // 0 sits out: his WORDS don't matter
        t.asked(() -> Worlds.persons(99, 7, 5), 2, "gap", 0);
        t.sentence("BAD: no such ROUND.");
        roundOfSix("gap", 0);
    }

    private void minutesFor() {
        t.promise(40);
        t.sentence("The MINUTES (1 to 9) by which one LEARNS first at least v (0 to 999) with another one; NONE.");
        int[] gained = {1, 3, 4, 6, 7, 9, 10, 12, 13};
        for (int m = 1; m <= 9; m++) {
            t.asked(two, m, "minutesFor", 0, 1, gained[m - 1]);
            t.asked(two, m == 9 ? NONE : m + 1, "minutesFor", 0, 1, gained[m - 1] + 1);
        }
        t.asked(two, 1, "minutesFor", 0, 1, 0);
        t.asked(six, 1, "minutesFor", 5, 0, 0);
        t.range(six, "minutesFor", 2, 0, 999, 0, 1, 0);
        t.sentence("BAD: also the same.");
        twoOfSix("minutesFor", 0);
        t.refused(six, BAD, "minutesFor", 0, 0, 1000);
        t.sentence(NOT_REFUSED);
        t.asked(two, NONE, "minutesFor", 0, 1, 14);
        t.asked(six, NONE, "minutesFor", 5, 0, 1);
        t.asked(six, NONE, "minutesFor", 0, 1, 999);
    }

    private void gain() {
        t.promise(41);
        t.sentence("How much more all LEARN TONIGHT than in ROUND r (it may not be less).");
        int[] want = {9, 15, 7, 0, 2};
        for (int r = 0; r < 5; r++) {
            t.asked(six, want[r], "gain", r);
        }
        for (int r = 0; r < 7; r++) {
            t.asked(eight, 0, "gain", r);
        }
        t.asked(one, 0, "gain", 0);
        // 10 TONIGHT; 8, 9 and 10 in the ROUNDS
        t.asked(three, 2, "gain", 0);
        t.asked(three, 1, "gain", 1);
        t.asked(three, 0, "gain", 2);
        t.asked(() -> talked(Worlds.persons(50, 50), 0, 1), 0, "gain", 0);
        t.sentence("BAD: no such ROUND.");
        roundOfSix("gain", 0);
    }

    private void bestAway() {
        t.promise(42);
        t.sentence("The two without whom (both staying away) all others LEARN most TONIGHT, of several the first: 10 times "
                + "the lesser and the other; NONE: fewer than two.");
        t.asked(six, 35, "bestAway");
        t.asked(two, 1, "bestAway");
        t.asked(three, 1, "bestAway");
        t.asked(eight, 1, "bestAway");
        t.asked(() -> Worlds.persons(50, 50, 50, 50, 50, 50, 0, 0), 67, "bestAway");
        t.asked(() -> talked(Worlds.persons(50, 50, 50, 50), 2, 3), 1, "bestAway");
        // with GUESTS nothing is LEARNED but by one of two
        t.asked(() -> Worlds.people(5, 0, 0, 0, 0, 50, 5, 0, 0, 0, 0, 50), 2, "bestAway");
        t.sentence(NOT_REFUSED);
        t.asked(nobody, NONE, "bestAway");
        t.asked(one, NONE, "bestAway");
    }

    private void often() {
        t.promise(43);
        t.sentence("By how many TALKS, always with that one, one has WORDS of at least v (0 to 99): 0 to 60; NONE.");
        int[] words = {50, 56, 62, 68, 74, 81, 88, 95, 99};
        for (int talks = 0; talks < words.length; talks++) {
            t.asked(two, talks, "often", 0, 1, words[talks]);
            if (talks + 1 < words.length) {
                t.asked(two, talks + 1, "often", 0, 1, words[talks] + 1);
            }
        }
        t.asked(two, 0, "often", 1, 0, 0);
        // a SHY one LEARNS 1 a TALK up to 59 WORDS, then 3
        t.asked(EdgesOfQuestionsTest::slow, 59, "often", 0, 1, 59);
        t.asked(EdgesOfQuestionsTest::slow, 60, "often", 0, 1, 60);
        t.asked(EdgesOfQuestionsTest::slow, 60, "often", 0, 1, 62);
        t.range(six, "often", 2, 0, 99, 0, 1, 0);
        t.sentence("BAD: also the same.");
        twoOfSix("often", 0);
        t.refused(six, BAD, "often", 0, 0, 100);
        t.sentence(NOT_REFUSED);
        t.asked(EdgesOfQuestionsTest::slow, NONE, "often", 0, 1, 63);
        t.asked(() -> Worlds.people(5, 0, 50, 0, 0, 50), NONE, "often", 0, 1, 51);
        t.asked(() -> Worlds.people(5, 0, 50, 0, 0, 50), 0, "often", 0, 1, 50);
    }

    private static InTwosInSpanish slow() {
        InTwosInSpanish x = Worlds.people(1, 0, 0, 5, 0, 99);
        x.tell(0, 3);
        return x;
    }

    private void unmet() {
        t.promise(44);
        t.sentence("Whom one has not MET (bits; not himself).");
        t.asked(eight, 254, "unmet", 0);
        t.asked(eight, 127, "unmet", 7);
        t.asked(one, 0, "unmet", 0);
        t.asked(() -> talked(Worlds.eight(), 0, 7, 7, 0), 126, "unmet", 0);
        t.asked(() -> talked(Worlds.eight(), 0, 7), 126, "unmet", 7);
        t.asked(() -> talked(Worlds.persons(1, 1), 0, 1), 0, "unmet", 1);
        t.sentence("BAD.");
        oneOfSix("unmet", 0);
    }

    private void met() {
        t.promise(45);
        t.sentence("How many pairs have MET.");
        t.asked(nobody, 0, "met");
        t.asked(eight, 0, "met");
        t.asked(() -> talked(Worlds.eight(), 6, 7), 1, "met");
        t.asked(() -> talked(Worlds.eight(), 6, 7, 7, 6, 6, 7), 1, "met");
        InTwosInSpanish x = Worlds.eight();
        x.evening(7);
        t.due("all pairs", x.met(), 28);
        x.evening(7);
        t.due("all pairs, no more", x.met(), 28);
    }

    private void noise() {
        t.promise(46);
        t.sentence("How much is SPOKEN in ROUND r by all, as all are now.");
        int[] want = {198, 173, 173, 198, 210};
        for (int r = 0; r < 5; r++) {
            t.asked(six, want[r], "noise", r);
        }
        t.asked(one, 0, "noise", 0);
        t.asked(three, 56, "noise", 0);
        t.sentence("BAD: no such ROUND.");
        roundOfSix("noise", 0);
    }

    private void all() {
        t.promise(47);
        t.sentence("How much one SPEAKS (what 0), LEARNS (1) in all ROUNDS together, as all are now.");
        for (int p = 0; p < 6; p++) {
            int spoken = 0;
            int gained = 0;
            for (int q = 0; q < 6; q++) {
                spoken += SPOKEN[p][q];
                gained += GAINED[p][q];
            }
            t.asked(six, spoken, "all", p, 0);
            t.asked(six, gained, "all", p, 1);
        }
        t.asked(one, 0, "all", 0, 0);
        t.asked(one, 0, "all", 0, 1);
        t.asked(three, 80, "all", 0, 0);
        t.sentence("BAD.");
        oneOfSix("all", 0, 0);
        t.range(six, "all", 1, 0, 1, 0, 0);
    }

    private void fair() {
        t.promise(48);
        t.sentence("How much more who LEARNS most in all ROUNDS together, as all are now, does than who LEARNS least "
                + "(0: nobody).");
        t.asked(nobody, 0, "fair");
        t.asked(one, 0, "fair");
        t.asked(eight, 0, "fair");
        t.asked(six, 26, "fair");
        t.asked(three, 2, "fair");
        t.asked(() -> Worlds.persons(10, 30, 50), 2, "fair");
        t.asked(() -> Worlds.persons(30, 10, 50), 2, "fair");
    }

    private void sitsOut() {
        t.promise(49);
        t.sentence("Who sits out in ROUND r; NONE.");
        t.asked(one, 0, "sitsOut", 0);
        for (int r = 0; r < 3; r++) {
            t.asked(three, r, "sitsOut", r);
        }
        t.asked(() -> Worlds.persons(1, 1, 1, 1, 1, 1, 1), 6, "sitsOut", 6);
        t.sentence("BAD: no such ROUND.");
        roundOfSix("sitsOut", 0);
        t.sentence(NOT_REFUSED);
        t.asked(two, NONE, "sitsOut", 0);
        t.asked(eight, NONE, "sitsOut", 6);
    }

    private void mixed() {
        t.promise(50);
        t.sentence("How many pairs of two there are of just a KIND and just another one (or both the same).");
        Sentences.World many = () -> Worlds.people(0, 0, 0, 0, 0, 0, 0, 0, 0, 1, 0, 0, 3, 0, 0, 3, 0, 0);
        t.asked(many, 3, "mixed", 0, 0);
        t.asked(many, 3, "mixed", 0, 1);
        t.asked(many, 3, "mixed", 1, 0);
        t.asked(many, 6, "mixed", 3, 0);
        t.asked(many, 1, "mixed", 3, 3);
        t.asked(many, 0, "mixed", 1, 1);
        t.asked(many, 0, "mixed", 2, 2);
        t.asked(many, 0, "mixed", 0, 5);
        t.asked(eight, 28, "mixed", 0, 0);
        t.asked(nobody, 0, "mixed", 0, 0);
        t.sentence("BAD.");
        t.range(six, "mixed", 0, 0, 5, 0, 0);
        t.range(six, "mixed", 1, 0, 5, 0, 0);
    }

    private void turned() {
        t.promise(51);
        t.sentence("PEOPLE (bits) who would be WRONG behind ROUND r alone and aren't now (wrong), or are and wouldn't be "
                + "(not so).");
        Sentences.World middle = () -> wrongOf(Worlds.persons(50, 30, 10), 2);
        int[][] want = {{0, 4}, {0, 0}, {2, 0}};
        for (int r = 0; r < 3; r++) {
            t.asked(middle, want[r][1], "turned", r, 1);
            t.asked(middle, want[r][0], "turned", r, 0);
        }
        t.asked(() -> wrongOf(Worlds.persons(50), 1), 0, "turned", 0, 1);
        t.asked(() -> wrongOf(Worlds.persons(50), 1), 0, "turned", 0, 0);
        // ROUND 0 of eight: the last four have the first four, and SPEAK more
        t.asked(() -> wrongOf(Worlds.persons(0, 0, 0, 0, 50, 50, 50, 50), 240), 15, "turned", 0, 1);
        t.asked(() -> wrongOf(Worlds.persons(0, 0, 0, 0, 50, 50, 50, 50), 15), 15, "turned", 0, 0);
        t.asked(() -> wrongOf(Worlds.persons(50, 50, 50, 50, 0, 0, 0, 0), 15), 240, "turned", 0, 1);
        t.sentence("BAD: no such ROUND.");
        roundOfSix("turned", 0, 1);
        roundOfSix("turned", 0, 0);
    }

    private void until() {
        t.promise(52);
        t.sentence("The least r, so that behind ROUNDS 0 to r less 1, one behind the other, all WORDS together are at least "
                + "v (0 to 999); NONE.");
        int[] words = {90, 98, 107, 117};
        for (int r = 0; r <= 3; r++) {
            t.asked(three, r, "until", words[r]);
            t.asked(three, r == 3 ? NONE : r + 1, "until", words[r] + 1);
        }
        t.asked(three, 0, "until", 0);
        t.asked(nobody, 0, "until", 0);
        t.asked(one, 0, "until", 50);
        t.range(six, "until", 0, 0, 999, 0);
        t.sentence("BAD.");
        t.range(nobody, "until", 0, 0, 999, 0);
        t.sentence(NOT_REFUSED);
        t.asked(nobody, NONE, "until", 1);
        t.asked(one, NONE, "until", 51);
        t.asked(() -> Worlds.persons(99, 98), 1, "until", 198);
        t.asked(() -> Worlds.persons(99, 98), NONE, "until", 199);
        t.asked(eight, NONE, "until", 999);
    }

    private void likes() {
        t.promise(53);
        t.sentence("The i-th (0 to how many PEOPLE less 2) of all others, by how much one LEARNS with them, most first, of "
                + "several by numbers.");
        int[][] want = {{1, 4, 2, 3, 5}, {2, 4, 0, 3, 5}, {4, 5, 1, 0, 3}, {0, 2, 5, 1, 4}, {2, 5, 1, 0, 3},
            {0, 1, 2, 3, 4}};
        for (int p = 0; p < 6; p++) {
            for (int i = 0; i < 5; i++) {
                t.asked(six, want[p][i], "likes", p, i);
            }
        }
        t.range(six, "likes", 1, 0, 4, 0, 0);
        t.range(two, "likes", 1, 0, 0, 0, 0);
        t.range(eight, "likes", 1, 0, 6, 0, 0);
        t.asked(eight, 7, "likes", 0, 6);
        t.asked(eight, 0, "likes", 7, 0);
        t.sentence("BAD.");
        oneOfSix("likes", 0, 0);
        t.refused(one, BAD, "likes", 0, 0);
        t.refused(one, BAD, "likes", 0, -1);
    }

    private void bestPair() {
        t.promise(54);
        t.sentence("The two who LEARN most together (what 0), least (1), of several the first by numbers: 10 times the "
                + "lesser and the other; NONE: fewer than two.");
        t.asked(six, 24, "bestPair", 0);
        t.asked(six, 13, "bestPair", 1);
        t.asked(two, 1, "bestPair", 0);
        t.asked(two, 1, "bestPair", 1);
        t.asked(eight, 1, "bestPair", 0);
        t.asked(eight, 1, "bestPair", 1);
        t.asked(() -> Worlds.persons(0, 0, 0, 0, 0, 0, 50, 50), 67, "bestPair", 0);
        t.asked(() -> Worlds.people(0, 0, 50, 0, 0, 50, 5, 0, 0, 5, 0, 0), 23, "bestPair", 1);
        t.sentence("BAD.");
        t.range(six, "bestPair", 0, 0, 1, 0);
        t.refused(nobody, BAD, "bestPair", 2);
        t.sentence(NOT_REFUSED);
        t.asked(nobody, NONE, "bestPair", 0);
        t.asked(one, NONE, "bestPair", 0);
        t.asked(one, NONE, "bestPair", 1);
    }

    private void fresh() {
        t.promise(55);
        t.sentence("As TONIGHT, but no two who have MET may have each other (one who is odd may sit out): how much (person "
                + "NONE; NONE: it can't be), whom one has (NONE: it can't be).");
        t.asked(six, 23, "fresh", NONE);
        t.asked(six, 1, "fresh", 0);
        t.asked(nobody, 0, "fresh", NONE);
        t.asked(one, 0, "fresh", NONE);
        t.asked(one, 0, "fresh", 0);
        t.asked(two, 1, "fresh", 0);
        int[] mates = {2, 3, 0, 1};
        for (int p = 0; p < 4; p++) {
            t.asked(() -> talked(Worlds.persons(50, 50, 50, 50), 1, 0), mates[p], "fresh", p);
        }
        // 0 has MET both others, and sits out; they LEARN 6 each
        Sentences.World odd = () -> talked(Worlds.persons(50, 50, 50), 0, 1, 0, 2);
        t.asked(odd, 0, "fresh", 0);
        t.asked(odd, 2, "fresh", 1);
        t.asked(odd, 12, "fresh", NONE);
        t.sentence("BAD.");
        t.range(six, "fresh", 0, NONE, 5, 0);
        t.range(nobody, "fresh", 0, NONE, NONE, 0);
        t.sentence(NOT_REFUSED);
        Sentences.World both = () -> talked(Worlds.persons(50, 50), 0, 1);
        Sentences.World allThree = () -> talked(Worlds.persons(50, 50, 50), 0, 1, 0, 2, 1, 2);
        Sentences.World lonely = () -> talked(Worlds.persons(50, 50, 50, 50), 3, 0, 3, 1, 3, 2);
        t.asked(both, NONE, "fresh", NONE);
        t.asked(both, NONE, "fresh", 0);
        t.asked(allThree, NONE, "fresh", NONE);
        t.asked(allThree, NONE, "fresh", 2);
        t.asked(lonely, NONE, "fresh", NONE);
        t.asked(lonely, NONE, "fresh", 0);
    }

    private void harm() {
        t.promise(56);
        t.sentence("PEOPLE (bits) with whom one would be WRONG behind a TALK (also if he is now).");
        Sentences.World middle = () -> wrongOf(Worlds.persons(50, 30, 10), 2);
        int[] want = {0, 4, 2};
        for (int p = 0; p < 3; p++) {
            t.asked(middle, want[p], "harm", p);
        }
        t.asked(() -> wrongOf(Worlds.eight(), 255), 127, "harm", 7);
        t.asked(() -> wrongOf(Worlds.eight(), 255), 254, "harm", 0);
        t.asked(() -> wrongOf(Worlds.eight(), 128), 127, "harm", 7);
        t.asked(() -> wrongOf(Worlds.eight(), 128), 0, "harm", 0);
        t.asked(() -> wrongOf(Worlds.persons(50), 1), 0, "harm", 0);
        t.asked(() -> wrongOf(Worlds.people(5, 0, 0, 0, 0, 99), 2), 0, "harm", 0);
        t.sentence("BAD.");
        oneOfSix("harm", 0);
    }

    private void dumb() {
        t.promise(57);
        t.sentence("PEOPLE (bits) with whom one would SPEAK nothing.");
        t.asked(six, 54, "dumb", 3);
        t.asked(six, 0, "dumb", 0);
        t.asked(one, 0, "dumb", 0);
        t.asked(() -> Worlds.people(3, 0, 0), 0, "dumb", 0);
        t.asked(() -> Worlds.people(3, 0, 0, 0, 0, 20, 0, 0, 21), 4, "dumb", 0);
        t.asked(() -> Worlds.people(0, 0, 99, 0, 0, 99, 0, 0, 99, 0, 0, 99, 0, 0, 99, 0, 0, 99, 0, 0, 99, 3, 9, 0), 127,
                "dumb", 7);
        t.sentence("BAD.");
        oneOfSix("dumb", 0);
    }

    private void ofKind() {
        t.promise(58);
        t.sentence("How many of the PEOPLE are of just a KIND.");
        for (int kind = 0; kind < 6; kind++) {
            t.asked(six, 1, "ofKind", kind);
            t.asked(nobody, 0, "ofKind", kind);
            t.asked(eight, kind == 0 ? 8 : 0, "ofKind", kind);
        }
        t.asked(() -> Worlds.people(3, 0, 0, 4, 0, 0, 3, 0, 0), 0, "ofKind", 1);
        t.asked(() -> Worlds.people(3, 0, 0, 4, 0, 0, 3, 0, 0), 2, "ofKind", 3);
        t.sentence("BAD.");
        t.range(six, "ofKind", 0, 0, 5, 0);
    }
}
