import java.io.IOException;

/** Promises 59 to 67, sentence by sentence, at their boundary cases. */
public final class EdgesOfEveningsTest {
    private static final int NONE = InTwosInSpanish.NONE;
    private static final int BAD = -2;
    private static final int OTHER = -3;
    private static final int NOTHING = -4;
    private static final int STUCK = -5;
    private static final int MIN = Integer.MIN_VALUE;
    private static final int MAX = Integer.MAX_VALUE;

    private final Sentences t;

    private EdgesOfEveningsTest(Sentences t) {
        this.t = t;
    }

    public static void main(String[] args) throws IOException {
        Sentences t = new Sentences();
        EdgesOfEveningsTest test = new EdgesOfEveningsTest(t);
        test.judge();
        test.learned();
        test.talk();
        test.evening();
        test.drawn();
        test.seed();
        test.image();
        test.back();
        test.status();
        t.end();
    }

    /** Eight people; SHELF 0 tells five ROUNDS of theirs, twenty pairs, SHELF 1 as much but the last element. */
    private static InTwosInSpanish fiveRounds() {
        InTwosInSpanish x = Worlds.persons(10, 20, 30, 40, 50, 60, 70, 80);
        x.row(0, 0, 40);
        x.row(1, 0, 39);
        int i = 0;
        for (int r = 0; r < 5; r++) {
            for (int p = 0; p < 8; p++) {
                if (x.partner(p, r) > p) {
                    x.set(0, i, p);
                    x.set(0, i + 1, x.partner(p, r));
                    i += 2;
                }
            }
        }
        x.copy(0, 1, 0, 0, 39);
        return x;
    }

    /** Four people; SHELF 0 tells their six pairs, 1 is a ROW of none, 2 holds one of the PEOPLE, 3 NOTHING. */
    private static InTwosInSpanish four() {
        InTwosInSpanish x = Worlds.persons(50, 50, 50, 50);
        Worlds.fill(x, 0, 2, 0, 1, 2, 3, 0, 2, 3, 1, 0, 3, 2, 1);
        x.row(1, 2, 0);
        x.show(2, 0);
        return x;
    }

    private void refusedPairs(String method) {
        for (int s : new int[] {-1, 8, MIN, MAX}) {
            t.refused(EdgesOfEveningsTest::four, BAD, method, s, 0);
            t.refused(EdgesOfEveningsTest::four, BAD, method, s, 21);
        }
        for (int n : new int[] {-1, 21, MIN, MAX}) {
            t.refused(EdgesOfEveningsTest::four, BAD, method, 0, n);
            t.refused(EdgesOfEveningsTest::four, BAD, method, 2, n);
            t.refused(EdgesOfEveningsTest::four, BAD, method, 3, n);
        }
        t.refused(EdgesOfEveningsTest::four, OTHER, method, 2, 0);
        t.refused(EdgesOfEveningsTest::four, OTHER, method, 2, 20);
        t.refused(EdgesOfEveningsTest::four, NOTHING, method, 3, 0);
        t.refused(EdgesOfEveningsTest::four, NOTHING, method, 3, 20);
        t.refused(EdgesOfEveningsTest::four, BAD, method, 0, 7);
        t.refused(EdgesOfEveningsTest::four, BAD, method, 0, 20);
        t.refused(EdgesOfEveningsTest::four, BAD, method, 1, 1);
        t.refused(EdgesOfEveningsTest::fiveRounds, BAD, method, 1, 20);
        t.taken(EdgesOfEveningsTest::fiveRounds, method, 1, 19);
        t.taken(EdgesOfEveningsTest::fiveRounds, method, 0, 20);
        t.taken(EdgesOfEveningsTest::four, method, 1, 0);
    }

    private void judge() {
        t.promise(59);
        t.sentence("WRONG of a told EVENING by the first n pairs (0 to 20) of the ROW in SHELF s; NONE.");
        t.asked(EdgesOfEveningsTest::fiveRounds, NONE, "judge", 0, 20);
        t.asked(EdgesOfEveningsTest::fiveRounds, NONE, "judge", 1, 19);
        t.asked(EdgesOfEveningsTest::four, NONE, "judge", 0, 6);
        t.asked(EdgesOfEveningsTest::four, NONE, "judge", 1, 0);
        InTwosInSpanish x = fiveRounds();
        x.set(0, 39, x.element(0, 38));
        t.due("the last pair is WRONG", x.judge(0, 20), 19);
        t.due("all but the last", x.judge(0, 19), NONE);
        InTwosInSpanish y = four();
        y.set(0, 2, 0);
        t.due("the second is WRONG", y.judge(0, 6), 1);
        t.due("the second is WRONG", y.judge(0, 2), 1);
        t.due("only the first", y.judge(0, 1), NONE);
        t.due("none of them", y.judge(0, 0), NONE);
        InTwosInSpanish z = Worlds.persons(50, 50);
        Worlds.fill(z, 0, 4, 0, 7);
        t.due("booleans, 0 and 1", z.judge(0, 1), NONE);
        for (int sort = 0; sort < 4; sort++) {
            Worlds.fill(z, 0, sort, 1, 0);
            t.due("SORT " + sort, z.judge(0, 1), NONE);
        }

        t.sentence("BAD SHELF, n; OTHER; NOTHING; BAD: fewer elements.");
        refusedPairs("judge");
    }

    private void learned() {
        t.promise(60);
        t.sentence("How much is LEARNED by it, TALK by TALK, one behind the other (before WORDS are held to 99).");
        int evening = fiveRounds().evening(5);
        t.asked(EdgesOfEveningsTest::fiveRounds, evening, "learned", 0, 20);
        t.asked(EdgesOfEveningsTest::four, 0, "learned", 0, 0);
        t.asked(EdgesOfEveningsTest::four, 12, "learned", 0, 1);
        t.asked(EdgesOfEveningsTest::four, 24, "learned", 0, 2);
        t.asked(EdgesOfEveningsTest::four, 0, "learned", 1, 0);
        t.asked(() -> pairOf(99, 99), 16, "learned", 0, 1);
        // one behind the other: 8, 9 and 10 by what came before
        InTwosInSpanish x = Worlds.persons(50, 30, 10);
        Worlds.fill(x, 0, 1, 1, 2, 0, 2, 1, 0);
        int[] sums = {0, 8, 17, 27};
        for (int n = 0; n <= 3; n++) {
            t.due("learned(0, " + n + ")", x.learned(0, n), sums[n]);
        }
        t.due("nothing is changed", x.status(4) + x.met() + x.status(3), 90);

        t.sentence("BAD SHELF, n; OTHER; NOTHING; BAD; STUCK: it is WRONG.");
        refusedPairs("learned");
        t.refused(() -> pairOf(50), STUCK, "learned", 0, 1);
        t.asked(() -> pairOf(50), 0, "learned", 0, 0);
        t.refused(EdgesOfEveningsTest::wrongAtTheEnd, STUCK, "learned", 0, 6);
        t.asked(EdgesOfEveningsTest::wrongAtTheEnd, 60, "learned", 0, 5);
        t.refused(EdgesOfEveningsTest::wrongAtTheEnd, BAD, "learned", 0, 7);
    }

    private static InTwosInSpanish pairOf(int... words) {
        InTwosInSpanish x = Worlds.persons(words);
        Worlds.fill(x, 0, 3, 0, 1);
        return x;
    }

    /** The last of six pairs has one who talked already in its ROUND. */
    private static InTwosInSpanish wrongAtTheEnd() {
        InTwosInSpanish x = Worlds.persons(50, 50, 50, 50);
        Worlds.fill(x, 0, 2, 0, 1, 2, 3, 0, 2, 3, 1, 0, 3, 0, 1);
        return x;
    }

    private void talk() {
        t.promise(61);
        t.sentence("A TALK of two in truth: how much both LEARN.");
        InTwosInSpanish x = Worlds.persons(99, 98);
        x.wrong(0, true);
        t.due("before WORDS are held", x.talk(1, 0), 16);
        t.due("99 at most", x.status(4), 198);
        t.due("both SPEAK as much", x.spread(0), 1);
        t.due("MET", x.personOf(0, 4) * 10 + x.personOf(1, 4), 21);
        t.due("EVENINGS stay", x.status(3), 0);
        InTwosInSpanish y = Worlds.people(5, 0, 0, 5, 0, 0);
        t.due("two GUESTS", y.talk(0, 1), 0);
        t.due("MET", y.met(), 1);
        t.due("twice", y.talk(1, 0), 0);
        t.due("MET, no more", y.met(), 1);

        t.sentence("BAD: also the same.");
        for (int v : new int[] {-1, 6, MIN, MAX}) {
            t.refused(Worlds::shelved, BAD, "talk", v, 0);
            t.refused(Worlds::shelved, BAD, "talk", 0, v);
        }
        for (int p = 0; p < 6; p++) {
            t.refused(Worlds::shelved, BAD, "talk", p, p);
        }
        t.refused(Worlds::nobody, BAD, "talk", 0, 1);
        t.taken(Worlds::shelved, "talk", 0, 5);
        t.taken(Worlds::shelved, "talk", 5, 0);
    }

    private void evening() {
        t.promise(62);
        t.sentence("ROUNDS 0 to r less 1 in truth (r 1 to how many there are): how much is LEARNED (before WORDS are held to "
                + "99).");
        int[] sums = {0, 8, 17, 27};
        for (int r = 1; r <= 3; r++) {
            InTwosInSpanish x = Worlds.persons(50, 30, 10);
            t.due("evening(" + r + ")", x.evening(r), sums[r]);
            t.due("WORDS behind it", x.status(4), 90 + sums[r]);
            t.due("EVENINGS", x.status(3), 1);
            t.due("pairs that have MET", x.met(), r);
        }
        InTwosInSpanish y = Worlds.persons(99, 99);
        t.due("before WORDS are held", y.evening(1), 16);
        t.due("99 at most", y.status(4), 198);
        InTwosInSpanish z = Worlds.persons(50);
        t.due("one alone", z.evening(1), 0);
        t.due("EVENINGS", z.status(3), 1);
        t.due("nobody has MET", z.met(), 0);

        t.sentence("BAD.");
        t.range(Worlds::shelved, "evening", 0, 1, 5, 0);
        t.range(() -> Worlds.persons(50, 30, 10), "evening", 0, 1, 3, 0);
        t.range(() -> Worlds.persons(50), "evening", 0, 1, 1, 0);
        t.range(Worlds::eight, "evening", 0, 1, 7, 0);
        t.refused(Worlds::nobody, BAD, "evening", 0);
        t.refused(Worlds::nobody, BAD, "evening", 1);
    }

    private void drawn() {
        t.promise(63);
        t.sentence("EVENINGS by draws (n 1 to 40): how much is LEARNED.");
        for (int n = 1; n <= 40; n += 39) {
            InTwosInSpanish x = Worlds.persons(99, 99);
            x.tell(1, 0);
            t.due("all are there", x.drawn(n), 16 * n);
            t.due("EVENINGS", x.status(3), n);
            t.due("WORDS", x.status(4), 198);
            InTwosInSpanish y = new InTwosInSpanish();
            t.due("nobody", y.drawn(n), 0);
            t.due("EVENINGS", y.status(3), n);
            t.due("no DRAW", y.status(7), 1);
        }
        InTwosInSpanish z = Worlds.persons(50, 50, 50);
        z.tell(1, 12);
        t.due("nobody is there", z.drawn(1), 0);
        t.due("three DRAWS all the same", z.status(7), 662824084);
        // from SEED 1 on the DRAWS are 2, 6, 9, 3
        int[][] mets = {{2, 1, 0}, {2, 1, 0}, {2, 1, 0}, {0, 4, 2}, {0, 4, 2}, {0, 4, 2}, {0, 4, 2}, {0, 0, 0}};
        for (int absent = 0; absent < mets.length; absent++) {
            InTwosInSpanish u = Worlds.persons(50, 50, 50);
            u.tell(1, absent);
            t.due("ABSENT " + absent, u.drawn(1), mets[absent][1] == 0 ? 0 : 12);
            for (int p = 0; p < 3; p++) {
                t.due("ABSENT " + absent + ", MET of " + p, u.personOf(p, 4), mets[absent][p]);
            }
        }

        t.sentence("BAD.");
        t.range(Worlds::shelved, "drawn", 0, 1, 40, 0);
        t.range(Worlds::nobody, "drawn", 0, 1, 40, 0);
    }

    private void seed() {
        t.promise(64);
        t.sentence("SEED becomes v: the one ahead.");
        InTwosInSpanish x = new InTwosInSpanish();
        int[] seeds = {MIN, MAX, 0, -1, -2, 1};
        int before = 1;
        for (int v : seeds) {
            t.due("seed(" + v + ")", x.seed(v), before);
            t.due("SEED", x.status(7), v);
            before = v;
        }
        t.due("nothing is refused", x.status(12), 0);
        x.seed(0);
        x.person(0, 0, 0);
        x.drawn(1);
        t.due("one DRAW from 0 on", x.seed(5), 12345);
    }

    private void image() {
        t.promise(65);
        t.sentence("All is kept, but THE TAPE, SHELVES and REFUSALS: 1.");
        InTwosInSpanish x = Worlds.people(0, 1, 30, 3, 4, 10);
        x.wrong(1, true);
        x.tell(0, 9);
        x.tell(1, 12);
        x.talk(0, 1);
        x.evening(1);
        x.seed(77);
        x.row(0, 0, 1);
        x.feed('m');
        x.row(9, 0, 0);
        int[] kept = new int[9];
        for (int what = 0; what < 9; what++) {
            kept[what] = x.status(what);
        }
        int met = x.personOf(0, 4);
        int wrong = x.spread(0);
        t.due("image()", x.image(), 1);
        changeAll(x);
        t.due("back()", x.back(), 1);
        for (int what : new int[] {0, 1, 2, 3, 4, 5, 7}) {
            t.due("kept, status(" + what + ")", x.status(what), kept[what]);
        }
        t.due("MET is kept", x.personOf(0, 4), met);
        t.due("WRONG is kept", x.spread(0), wrong);
        t.due("KIND and a are kept", x.personOf(1, 0) * 10 + x.personOf(1, 1), 34);
        t.due("THE TAPE isn't", x.status(6), 3);
        t.due("SHELVES aren't", x.status(8), 2);
        t.due("a ROW isn't", x.element(0, 0), 5);
        t.due("REFUSALS aren't", x.status(12), 2);
        InTwosInSpanish y = new InTwosInSpanish();
        t.due("of nobody", y.image(), 1);
        y.person(0, 0, 0);
        t.due("of nobody", y.back(), 1);
        t.due("nobody", y.status(0), 0);
        y.person(0, 0, 9);
        t.due("a second image", y.image(), 1);
        y.words(0, 8);
        y.back();
        t.due("the last image holds", y.personOf(0, 2), 9);
    }

    private static void changeAll(InTwosInSpanish x) {
        x.person(2, 2, 22);
        x.words(0, 1);
        x.wrong(0, true);
        x.wrong(1, false);
        x.tell(0, 1);
        x.tell(1, 0);
        x.drawn(3);
        x.set(0, 0, 5);
        x.row(1, 1, 1);
        x.feed('i');
        x.feed('n');
        x.row(9, 0, 0);
    }

    private void back() {
        t.promise(66);
        t.sentence("All is again as it was kept (SHELVES with PEOPLE hold those of the same numbers, or NOTHING): 1.");
        InTwosInSpanish x = Worlds.persons(10, 20);
        x.image();
        x.person(0, 0, 30);
        x.words(1, 99);
        for (int s = 0; s < 3; s++) {
            x.show(s, s);
        }
        x.show(7, 2);
        Worlds.fill(x, 3, 1, 7);
        t.due("back()", x.back(), 1);
        int[] want = {10, 11, NONE, 1, NONE, NONE, NONE, NONE};
        for (int s = 0; s < 8; s++) {
            t.due("SHELF " + s, x.holds(s), want[s]);
        }
        t.due("a ROW stays", x.element(3, 0), 7);
        t.due("the one of the same number", x.personOf(1, 2), 20);
        t.due("SHELVES that hold something", x.status(8), 3);
        x.person(0, 0, 40);
        t.due("NOTHING, though one of that number is there again", x.holds(2), NONE);
        x.words(0, 99);
        t.due("back() a second time", x.back(), 1);
        t.due("as it was kept", x.personOf(0, 2), 10);
        InTwosInSpanish y = Worlds.eight();
        y.image();
        for (int s = 0; s < 8; s++) {
            y.show(s, 7);
        }
        y.back();
        t.due("all SHELVES", y.status(8), 8);
        t.due("one of the number 7", y.holds(7), 17);
        InTwosInSpanish z = Worlds.persons(10, 20, 30);
        z.talk(0, 1);
        z.image();
        z.talk(0, 2);
        z.back();
        t.due("MET as it was kept", z.personOf(0, 4), 2);
        t.due("MET as it was kept", z.personOf(2, 4), 0);
        InTwosInSpanish fewer = new InTwosInSpanish();
        fewer.image();
        fewer.person(0, 0, 0);
        fewer.show(0, 0);
        fewer.back();
        t.due("the number 0 isn't there", fewer.holds(0), NONE);

        t.sentence("STUCK: nothing was.");
        t.refused(Worlds::six, STUCK, "back");
        t.refused(Worlds::nobody, STUCK, "back");
    }

    private void status() {
        t.promise(67);
        t.sentence("PEOPLE (0), MINUTES (1), ABSENT (2), EVENINGS (3), all WORDS together (4), how many are WRONG (5), THE "
                + "TAPE's size (6), SEED (7), SHELVES that hold something (8);");
        int[] want = {6, 4, 1, 0, 324, 1, 9, 5, 7};
        int[] first = {0, 4, 1, 0, 0, 0, 0, 1, 0};
        for (int what = 0; what < 9; what++) {
            t.asked(Worlds::shelved, want[what], "status", what);
            t.asked(Worlds::nobody, first[what], "status", what);
        }
        InTwosInSpanish x = Worlds.persons(99, 99, 99, 99, 99, 99, 99, 99);
        for (int p = 0; p < 8; p++) {
            x.wrong(p, true);
            x.row(p, 0, 0);
        }
        t.due("all WORDS", x.status(4), 792);
        t.due("all are WRONG", x.status(5), 8);
        t.due("all SHELVES, ROWS of no elements", x.status(8), 8);

        t.sentence("12 to 16: REFUSALS -2 to -6.");
        int[] refusals = {2, 3, 4, 5, 6};
        InTwosInSpanish y = refusedOften();
        for (int sort = 0; sort < 5; sort++) {
            t.due("REFUSALS " + (-2 - sort), y.status(12 + sort), refusals[sort]);
        }

        t.sentence("NONE another what.");
        for (int what : new int[] {-1, 9, 10, 11, 17, -12, 28, MIN, MAX}) {
            t.asked(Worlds::shelved, NONE, "status", what);
        }
    }

    private static InTwosInSpanish refusedOften() {
        InTwosInSpanish x = Worlds.eight();
        x.show(0, 0);
        for (int n = 0; n < 6; n++) {
            x.person(0, 0, 0);
            if (n < 2) {
                x.feed(-1);
            }
            if (n < 3) {
                x.set(0, 0, 0);
            }
            if (n < 4) {
                x.set(1, 0, 0);
            }
            if (n < 5) {
                x.back();
            }
        }
        return x;
    }
}
