import java.util.ArrayList;
import java.util.Arrays;
import java.util.List;
import java.util.Random;
import java.util.TreeSet;

/** Long runs of calls against a second model that is plain and slow: it tries out every parting and every set. */
public final class ModelTest {
    private static final int RUNS = 1200;
    private static final int CALLS = 512;
    private static final int NONE = -1;
    private static final int METHODS = 67;

    public static void main(String[] args) {
        int wrong = 0;
        int[] seen = new int[METHODS];
        int[] answered = new int[METHODS];
        for (int run = 0; run < RUNS && wrong < 20; run++) {
            wrong += runOnce(run, seen, answered);
        }
        for (int m = 0; m < METHODS; m++) {
            if (seen[m] < 1000 || answered[m] < 200) {
                wrong++;
                System.out.println("method " + m + " was asked " + seen[m] + ", answered " + answered[m] + " times");
            }
        }
        System.out.println(RUNS + " runs of " + CALLS + " calls against the model, " + wrong + " wrong");
        if (wrong != 0) {
            System.exit(1);
        }
    }

    private static int runOnce(int run, int[] seen, int[] answered) {
        Random random = new Random(7919L * run + 1);
        InTwosInSpanish x = new InTwosInSpanish();
        Model model = new Model();
        int calls = 0;
        int wanted = random.nextInt(9);
        while (calls < CALLS) {
            if (random.nextInt(40) == 0) {
                for (char c : text(random, model.people.size()).toCharArray()) {
                    if (x.feed(c) != model.feed(c)) {
                        System.out.println("run " + run + ": feed differs");
                        return 1;
                    }
                    calls++;
                }
                if (random.nextInt(5) > 0) {
                    int got = x.group();
                    int want = model.group();
                    seen[12]++;
                    answered[12] += want > -2 ? 1 : 0;
                    if (got != want) {
                        System.out.println("run " + run + ": group answered " + got + ", due is " + want);
                        return 1;
                    }
                    calls++;
                }
                continue;
            }
            boolean more = model.people.size() < wanted && random.nextInt(2) == 0;
            int m = more ? 6 : random.nextInt(METHODS);
            int[] a = arguments(m, random, model);
            if (m == 6 && !more && random.nextInt(8) > 0) {
                a[0] = 6;
            }
            if (m == 65 && random.nextInt(4) > 0) {
                continue;
            }
            long want = model.call(m, a);
            long got = call(x, m, a);
            calls++;
            seen[m]++;
            answered[m] += want > -2 ? 1 : 0;
            if (got != want) {
                System.out.println("run " + run + ", call " + calls + ": method " + m + Arrays.toString(a) + " answered "
                        + got + ", due is " + want);
                return 1;
            }
            if (calls % 16 == 0 && !sameState(x, model)) {
                System.out.println("run " + run + ", call " + calls + ": the state differs behind method " + m);
                return 1;
            }
        }
        return 0;
    }

    private static boolean sameState(InTwosInSpanish x, Model model) {
        for (int what = -1; what < 18; what++) {
            if (x.status(what) != model.status(what)) {
                return false;
            }
        }
        for (int p = 0; p < model.people.size(); p++) {
            for (int what = 0; what < 5; what++) {
                if (x.personOf(p, what) != model.personOf(p, what)) {
                    return false;
                }
            }
        }
        for (int s = 0; s < 8; s++) {
            if (x.holds(s) != model.holds(s)) {
                return false;
            }
            for (int i = 0; i < 40; i++) {
                if (x.element(s, i) != model.element(s, i)) {
                    return false;
                }
            }
        }
        return true;
    }

    private static String text(Random random, int people) {
        StringBuilder text = new StringBuilder();
        int statements = 1 + random.nextInt(4);
        int there = people;
        for (int i = 0; i < statements; i++) {
            text.append(i > 0 ? ";" : "").append(random.nextInt(3) == 0 ? " " : "");
            int x = there > 0 ? random.nextInt(there) : 0;
            switch (random.nextInt(7)) {
                case 0:
                case 1:
                    text.append("person ").append(random.nextInt(6)).append(' ').append(random.nextInt(10)).append(' ')
                            .append(random.nextInt(100));
                    there++;
                    break;
                case 2:
                    text.append("wrong ").append(x);
                    break;
                case 3:
                    text.append("right 0").append(x);
                    break;
                case 4:
                    text.append("words ").append(x).append("  ").append(random.nextInt(101));
                    break;
                case 5:
                    text.append("minutes").append(random.nextInt(11));
                    break;
                default:
                    text.append("absent ").append(random.nextInt(14));
                    break;
            }
        }
        if (random.nextInt(4) == 0) {
            String odd = "; 019azwAZ\u00e9,\t";
            int at = random.nextInt(text.length());
            switch (random.nextInt(3)) {
                case 0:
                    text.insert(at, odd.charAt(random.nextInt(odd.length())));
                    break;
                case 1:
                    text.deleteCharAt(at);
                    break;
                default:
                    text.setLength(at);
                    break;
            }
        }
        return text.toString();
    }

    private static int near(Random random, int least, int most) {
        return least - 1 + random.nextInt(Math.max(1, most - least + 3));
    }

    /** Mostly a number from least to most; one in ten is just beside or far away. */
    private static int some(Random random, int least, int most) {
        if (random.nextInt(10) == 0 || most < least) {
            return random.nextInt(4) == 0 ? random.nextInt() : near(random, least, most);
        }
        return least + random.nextInt(most - least + 1);
    }

    private static int[] arguments(int m, Random random, Model model) {
        int last = model.people.size() - 1;
        int rounds = model.rounds();
        int p = some(random, 0, last);
        int q = some(random, 0, last);
        int r = some(random, 0, rounds - 1);
        int s = some(random, 0, 3);
        int small = some(random, 0, random.nextBoolean() ? 12 : 90);
        int v = random.nextInt(4) == 0 ? some(random, 0, 999) : small;
        int what = some(random, 0, 1);
        switch (m) {
            case 0: return new int[] {s, some(random, random.nextBoolean() ? 2 : 0, random.nextInt(4) == 0 ? 4 : 2), some(random, 0, random.nextInt(3) == 0 ? 40 : 12)};
            case 1: return new int[] {s, some(random, 0, 7), random.nextInt(3) == 0 ? random.nextInt() : random.nextInt(8)};
            case 2: return new int[] {s, some(random, 0, 3), some(random, 0, 4), some(random, 0, 4), some(random, 0, 3)};
            case 3: return new int[] {s, some(random, 0, 12)};
            case 4: return new int[] {s};
            case 5: return new int[] {s, some(random, -1, last)};
            case 6: return new int[] {some(random, 0, 5), some(random, 0, 9), some(random, 0, 99)};
            case 7: return new int[] {p, some(random, 0, 99)};
            case 8: return new int[] {p, random.nextInt(2)};
            case 9: return random.nextBoolean() ? new int[] {0, some(random, 1, 9)} : new int[] {what, some(random, 0, 12)};
            case 10: return new int[] {some(random, 0, 255)};
            case 13: return new int[] {p, some(random, 0, 4)};
            case 14: case 15: case 16: case 17: case 20: case 58: return new int[] {p, q};
            case 19: return new int[] {p, r};
            case 21: case 52: return new int[] {some(random, -1, last)};
            case 23: return new int[] {p, some(random, 0, rounds)};
            case 24: return new int[] {some(random, 0, rounds)};
            case 25: case 33: case 35: case 51: return new int[] {what};
            case 26: case 34: case 36: case 38: case 43: case 46: return new int[] {r};
            case 27: return new int[] {p, q, random.nextBoolean() ? 0 : v};
            case 28: return new int[] {p, q, random.nextBoolean() ? 0 : v, what};
            case 29: return new int[] {v};
            case 49: return new int[] {some(random, 0, 999)};
            case 30: return new int[] {p, some(random, 0, 9)};
            case 31: return new int[] {r, what};
            case 32: return new int[] {p, some(random, 0, 2)};
            case 37: case 40: return new int[] {p, q, random.nextBoolean() ? some(random, 0, 12) : some(random, 0, 99)};
            case 41: case 53: case 54: return new int[] {p};
            case 44: return new int[] {p, what};
            case 47: return new int[] {some(random, 0, 5), some(random, 0, 5)};
            case 48: return new int[] {r, random.nextInt(2)};
            case 50: return new int[] {p, some(random, 0, last - 1)};
            case 55: return new int[] {some(random, 0, 5)};
            case 56: case 57: return new int[] {s, random.nextInt(5) == 0 ? some(random, 0, 20) : some(random, 0, 3)};
            case 59: return new int[] {some(random, 1, rounds)};
            case 60: return new int[] {some(random, 1, random.nextInt(5) == 0 ? 40 : 2)};
            case 61: return new int[] {random.nextInt()};
            case 64: return new int[] {some(random, 0, 16)};
            case 66: return new int[] {s, some(random, 0, 5)};
            default: return new int[0];
        }
    }

    private static long call(InTwosInSpanish x, int m, int[] a) {
        switch (m) {
            case 0: return x.row(a[0], a[1], a[2]);
            case 1: return x.set(a[0], a[1], wide(a[2]));
            case 2: return x.copy(a[0], a[1], a[2], a[3], a[4]);
            case 3: return x.element(a[0], a[1]);
            case 4: return x.holds(a[0]);
            case 5: return x.show(a[0], a[1]);
            case 6: return x.person(a[0], a[1], a[2]);
            case 7: return x.words(a[0], a[1]);
            case 8: return x.wrong(a[0], a[1] != 0);
            case 9: return x.tell(a[0], a[1]);
            case 10: return x.feed(a[0]);
            case 11: return x.wipe();
            case 12: return x.group();
            case 13: return x.personOf(a[0], a[1]);
            case 14: return x.speaks(a[0], a[1]);
            case 15: return x.learns(a[0], a[1]);
            case 16: return x.after(a[0], a[1]);
            case 17: return x.share(a[0], a[1]);
            case 18: return x.rounds();
            case 19: return x.partner(a[0], a[1]);
            case 20: return x.round(a[0], a[1]);
            case 21: return x.tonight(a[0]);
            case 22: return x.rather();
            case 23: return x.ahead(a[0], a[1]);
            case 24: return x.spread(a[0]);
            case 25: return x.cured(a[0]);
            case 26: return x.listen(a[0]);
            case 27: return x.kinds(a[0], a[1], a[2]);
            case 28: return x.spans(a[0], a[1], a[2], a[3]);
            case 29: return x.hold(a[0]);
            case 30: return x.stay(a[0], a[1]);
            case 31: return x.lesson(a[0], a[1]);
            case 32: return x.best(a[0], a[1]);
            case 33: return x.first(a[0]);
            case 34: return x.silent(a[0]);
            case 35: return x.bestRound(a[0]);
            case 36: return x.gap(a[0]);
            case 37: return x.minutesFor(a[0], a[1], a[2]);
            case 38: return x.gain(a[0]);
            case 39: return x.bestAway();
            case 40: return x.often(a[0], a[1], a[2]);
            case 41: return x.unmet(a[0]);
            case 42: return x.met();
            case 43: return x.noise(a[0]);
            case 44: return x.all(a[0], a[1]);
            case 45: return x.fair();
            case 46: return x.sitsOut(a[0]);
            case 47: return x.mixed(a[0], a[1]);
            case 48: return x.turned(a[0], a[1] != 0);
            case 49: return x.until(a[0]);
            case 50: return x.likes(a[0], a[1]);
            case 51: return x.bestPair(a[0]);
            case 52: return x.fresh(a[0]);
            case 53: return x.harm(a[0]);
            case 54: return x.dumb(a[0]);
            case 55: return x.ofKind(a[0]);
            case 56: return x.judge(a[0], a[1]);
            case 57: return x.learned(a[0], a[1]);
            case 58: return x.talk(a[0], a[1]);
            case 59: return x.evening(a[0]);
            case 60: return x.drawn(a[0]);
            case 61: return x.seed(a[0]);
            case 62: return x.image();
            case 63: return x.back();
            case 64: return x.status(a[0]);
            case 65: return x.wipe();
            default: return x.says(a[0], a[1]);
        }
    }

    /** Small numbers stay; great ones become longs that are no ints. */
    private static long wide(int v) {
        return v >= 0 && v < 8 ? v : v * 0x100000001L;
    }

    private static final class P {
        int kind;
        int a;
        int words;
        boolean wrong;
        TreeSet<Integer> met = new TreeSet<>();

        P twin() {
            P p = new P();
            p.kind = kind;
            p.a = a;
            p.words = words;
            p.wrong = wrong;
            p.met = new TreeSet<>(met);
            return p;
        }

        int speaks(P other, int minutes) {
            int person = minutes * (5 + words / 10);
            if (kind == 0) {
                return person;
            }
            if (kind == 5) {
                return 10 * minutes;
            }
            if (kind == 1 || kind == 3) {
                boolean mute = kind == 3 && other.words > words + 20 + a;
                return mute ? 0 : person / 2;
            }
            boolean bored = kind == 4 && words > other.words + 10 + a;
            return bored ? (person + a) / 2 : person + a;
        }

        int learns(P other, int minutes) {
            if (kind == 5) {
                return 0;
            }
            int n = (speaks(other, minutes) + other.speaks(this, minutes) / 2) / 10;
            boolean far = words > other.words + 40 || other.words > words + 40;
            return far ? n / 2 : n;
        }

        boolean wrongBehind(P other, int minutes) {
            if (wrong != other.wrong && other.speaks(this, minutes) > speaks(other, minutes)) {
                return kind == 5 ? false : other.wrong;
            }
            return wrong;
        }
    }

    private static final class Model {
        List<P> people = new ArrayList<>();
        int minutes = 4;
        int absent = 1;
        int evenings;
        int seed = 1;
        Model kept;
        StringBuilder tape = new StringBuilder();
        Object[] shelves = new Object[8];
        int[] sorts = new int[8];
        int[] refused = new int[7];

        Model twin() {
            Model m = new Model();
            for (P p : people) {
                m.people.add(p.twin());
            }
            m.minutes = minutes;
            m.absent = absent;
            m.evenings = evenings;
            m.seed = seed;
            return m;
        }

        int no(int code) {
            refused[-code]++;
            return code;
        }

        int size() {
            return people.size();
        }

        boolean is(int p) {
            return p >= 0 && p < size();
        }

        boolean two(int p, int q) {
            return is(p) && is(q) && p != q;
        }

        boolean in(int v, int least, int most) {
            return least <= v && v <= most;
        }

        P at(int p) {
            return people.get(p);
        }

        int speaks(int p, int q) {
            return at(p).speaks(at(q), minutes);
        }

        int learns(int p, int q) {
            return at(p).learns(at(q), minutes);
        }

        int rounds() {
            int n = size() + size() % 2;
            return n < 2 ? 0 : n - 1;
        }

        boolean isRound(int r) {
            return r >= 0 && r < rounds();
        }

        int partner(int p, int r) {
            int n = size() + size() % 2;
            int with = n - 1;
            if (p == n - 1) {
                with = r;
            } else {
                for (int y = 0; y < n - 1; y++) {
                    if (y != p && (p + y) % (n - 1) == 2 * r % (n - 1)) {
                        with = y;
                    }
                }
            }
            return with < size() ? with : NONE;
        }

        int talk(int p, int q) {
            int lp = learns(p, q);
            int lq = learns(q, p);
            boolean wp = at(p).wrongBehind(at(q), minutes);
            boolean wq = at(q).wrongBehind(at(p), minutes);
            at(p).words = Math.min(99, at(p).words + lp);
            at(q).words = Math.min(99, at(q).words + lq);
            at(p).wrong = wp;
            at(q).wrong = wq;
            at(p).met.add(q);
            at(q).met.add(p);
            return lp + lq;
        }

        int play(int from, int to) {
            int sum = 0;
            for (int r = from; r < to; r++) {
                for (int p = 0; p < size(); p++) {
                    if (partner(p, r) > p) {
                        sum += talk(p, partner(p, r));
                    }
                }
            }
            return sum;
        }

        int words() {
            return people.stream().mapToInt(p -> p.words).sum();
        }

        int wrongOnes() {
            int bits = 0;
            for (int p = 0; p < size(); p++) {
                bits += at(p).wrong ? 1 << p : 0;
            }
            return bits;
        }

        /** The first row of partners of those who stay by which most is LEARNED; null: there is none. */
        int[] parting(TreeSet<Integer> there, boolean fresh) {
            List<int[]> rows = new ArrayList<>();
            int[] row = new int[size()];
            Arrays.fill(row, NONE);
            fill(rows, row, new ArrayList<>(there), there.size() % 2, fresh);
            int[] best = null;
            for (int[] r : rows) {
                if (best == null || sum(r) > sum(best) || sum(r) == sum(best) && Arrays.compare(r, best) < 0) {
                    best = r;
                }
            }
            return best;
        }

        void fill(List<int[]> rows, int[] row, List<Integer> left, int out, boolean fresh) {
            if (left.isEmpty()) {
                rows.add(row.clone());
                return;
            }
            // from the last on, so that the order of trying isn't the order that is asked for
            int p = left.get(left.size() - 1);
            List<Integer> rest = new ArrayList<>(left.subList(0, left.size() - 1));
            if (out > 0) {
                row[p] = p;
                fill(rows, row, rest, 0, fresh);
            }
            for (Integer q : rest) {
                if (fresh && at(p).met.contains(q)) {
                    continue;
                }
                row[p] = q;
                row[q] = p;
                List<Integer> fewer = new ArrayList<>(rest);
                fewer.remove(q);
                fill(rows, row, fewer, out, fresh);
            }
        }

        int sum(int[] row) {
            int sum = 0;
            for (int p = 0; p < row.length; p++) {
                sum += row[p] == NONE || row[p] == p ? 0 : learns(p, row[p]);
            }
            return sum;
        }

        TreeSet<Integer> everybody() {
            TreeSet<Integer> all = new TreeSet<>();
            for (int p = 0; p < size(); p++) {
                all.add(p);
            }
            return all;
        }

        int tonight(int p, boolean fresh) {
            if (p != NONE && !is(p)) {
                return no(-2);
            }
            int[] row = parting(everybody(), fresh);
            if (row == null) {
                return NONE;
            }
            return p == NONE ? sum(row) : row[p];
        }

        int learnedIn(int r) {
            int sum = 0;
            for (int p = 0; p < size(); p++) {
                sum += learnsIn(p, r);
            }
            return sum;
        }

        int learnsIn(int p, int r) {
            int q = partner(p, r);
            return q == NONE ? 0 : learns(p, q);
        }

        int rather() {
            int[] row = parting(everybody(), false);
            int n = 0;
            for (int p = 0; p < size(); p++) {
                for (int q = 0; q < p; q++) {
                    int hasP = row[p] == p ? 0 : learns(p, row[p]);
                    int hasQ = row[q] == q ? 0 : learns(q, row[q]);
                    if (row[p] != q && learns(p, q) > hasP && learns(q, p) > hasQ) {
                        n++;
                    }
                }
            }
            return n;
        }

        int cured(int what) {
            if (what != 0 && what != 1) {
                return no(-2);
            }
            int best = NONE;
            for (int set = 0; set < 1 << size(); set++) {
                if ((set & ~wrongOnes()) != 0 || best != NONE && Integer.bitCount(set) >= Integer.bitCount(best)) {
                    continue;
                }
                Model m = twin();
                for (int p = 0; p < size(); p++) {
                    if ((set >> p & 1) == 1) {
                        m.at(p).wrong = false;
                    }
                }
                m.play(0, rounds());
                if (m.wrongOnes() == 0) {
                    best = set;
                }
            }
            return best == NONE ? NONE : what == 1 ? best : Integer.bitCount(best);
        }

        int listen(int r) {
            if (!isRound(r)) {
                return no(-2);
            }
            int best = NONE;
            int most = -1;
            int wrongOnes = 0;
            for (int p = 0; p < size(); p++) {
                int q = partner(p, r);
                if (q != NONE && at(p).wrong) {
                    wrongOnes++;
                }
                if (q > p) {
                    int n = (at(p).wrong ? speaks(p, q) : 0) + (at(q).wrong ? speaks(q, p) : 0);
                    if (n > most) {
                        most = n;
                        best = p;
                    }
                }
            }
            return wrongOnes == 0 ? NONE : best;
        }

        int kinds(int p, int q, int n) {
            if (!two(p, q) || !in(n, 0, 999)) {
                return no(-2);
            }
            int bits = 0;
            for (int k = 0; k < 6; k++) {
                P twin = at(p).twin();
                twin.kind = k;
                bits += twin.speaks(at(q), minutes) == n ? 1 << k : 0;
            }
            return bits;
        }

        int spans(int p, int q, int n, int what) {
            if (!two(p, q) || !in(n, 0, 999) || !in(what, 0, 1)) {
                return no(-2);
            }
            TreeSet<Integer> fit = new TreeSet<>();
            for (int w = 0; w < 100; w++) {
                P twin = at(p).twin();
                twin.words = w;
                if (twin.speaks(at(q), minutes) == n) {
                    fit.add(w);
                }
            }
            return fit.isEmpty() ? NONE : what == 0 ? fit.first() : fit.last();
        }

        int hold(int v) {
            if (!in(v, 0, 999)) {
                return no(-2);
            }
            for (int m = 1; m < 10; m++) {
                Model t = twin();
                t.minutes = m;
                if (t.tonight(NONE, false) >= v) {
                    return m;
                }
            }
            return NONE;
        }

        int stay(int p, int v) {
            if (!is(p) || !in(v, 0, 999)) {
                return no(-2);
            }
            int n = 0;
            for (int r = 0; r < rounds(); r++) {
                n += learnsIn(p, r) >= v ? 1 : 0;
            }
            return n;
        }

        int best(int p, int what) {
            if (!is(p) || !in(what, 0, 2)) {
                return no(-2);
            }
            int best = NONE;
            for (int q = size() - 1; q >= 0; q--) {
                if (q == p) {
                    continue;
                }
                boolean better = best == NONE
                        || what == 0 && learns(p, q) >= learns(p, best)
                        || what == 1 && learns(p, q) <= learns(p, best)
                        || what == 2 && speaks(p, q) >= speaks(p, best);
                best = better ? q : best;
            }
            return best;
        }

        int first(int what) {
            if (!in(what, 0, 1)) {
                return no(-2);
            }
            int best = NONE;
            for (int p = size() - 1; p >= 0; p--) {
                boolean better = best == NONE || what == 0 && at(p).words >= at(best).words
                        || what == 1 && at(p).words <= at(best).words;
                best = better ? p : best;
            }
            return best == NONE ? no(-5) : best;
        }

        int inRound(int m, int r) {
            if (!isRound(r)) {
                return no(-2);
            }
            int silent = 0;
            int gap = 0;
            int noise = 0;
            int out = NONE;
            for (int p = 0; p < size(); p++) {
                int q = partner(p, r);
                if (q == NONE) {
                    out = p;
                } else {
                    silent += speaks(p, q) == 0 ? 1 : 0;
                    noise += speaks(p, q);
                    gap = Math.max(gap, Math.abs(at(p).words - at(q).words));
                }
            }
            return m == 34 ? silent : m == 36 ? gap : m == 43 ? noise : m == 46 ? out
                    : tonight(NONE, false) - learnedIn(r);
        }

        int bestRound(int what) {
            if (!in(what, 0, 1)) {
                return no(-2);
            }
            int best = NONE;
            for (int r = rounds() - 1; r >= 0; r--) {
                boolean better = best == NONE || what == 0 && learnedIn(r) >= learnedIn(best)
                        || what == 1 && learnedIn(r) <= learnedIn(best);
                best = better ? r : best;
            }
            return best == NONE ? no(-5) : best;
        }

        int minutesFor(int p, int q, int v) {
            if (!two(p, q) || !in(v, 0, 999)) {
                return no(-2);
            }
            for (int m = 1; m < 10; m++) {
                if (at(p).learns(at(q), m) >= v) {
                    return m;
                }
            }
            return NONE;
        }

        int bestAway() {
            int best = NONE;
            int most = -1;
            for (int p = 0; p < size(); p++) {
                for (int q = p + 1; q < size(); q++) {
                    TreeSet<Integer> there = everybody();
                    there.remove(p);
                    there.remove(q);
                    int n = sum(parting(there, false));
                    if (n > most) {
                        most = n;
                        best = 10 * p + q;
                    }
                }
            }
            return best;
        }

        int often(int p, int q, int v) {
            if (!two(p, q) || !in(v, 0, 99)) {
                return no(-2);
            }
            Model m = twin();
            int n = 0;
            while (m.at(p).words < v) {
                if (n == 60) {
                    return NONE;
                }
                m.talk(p, q);
                n++;
            }
            return n;
        }

        int all(int p, int what) {
            if (!is(p) || !in(what, 0, 1)) {
                return no(-2);
            }
            int sum = 0;
            for (int q = 0; q < size(); q++) {
                sum += q == p ? 0 : what == 0 ? speaks(p, q) : learns(p, q);
            }
            return sum;
        }

        int fair() {
            TreeSet<Integer> sums = new TreeSet<>();
            for (int p = 0; p < size(); p++) {
                sums.add(all(p, 1));
            }
            return sums.isEmpty() ? 0 : sums.last() - sums.first();
        }

        int turned(int r, boolean wrong) {
            if (!isRound(r)) {
                return no(-2);
            }
            Model m = twin();
            m.play(r, r + 1);
            int bits = 0;
            for (int p = 0; p < size(); p++) {
                bits += m.at(p).wrong == wrong && at(p).wrong != wrong ? 1 << p : 0;
            }
            return bits;
        }

        int until(int v) {
            if (!in(v, 0, 999)) {
                return no(-2);
            }
            for (int r = 0; r <= rounds(); r++) {
                Model m = twin();
                m.play(0, r);
                if (m.words() >= v) {
                    return r;
                }
            }
            return NONE;
        }

        int likes(int p, int i) {
            if (!is(p) || !in(i, 0, size() - 2)) {
                return no(-2);
            }
            List<Integer> others = new ArrayList<>(everybody());
            others.remove(Integer.valueOf(p));
            others.sort((x, y) -> learns(p, x) != learns(p, y) ? learns(p, y) - learns(p, x) : x - y);
            return others.get(i);
        }

        int bestPair(int what) {
            if (!in(what, 0, 1)) {
                return no(-2);
            }
            int best = NONE;
            int had = 0;
            for (int p = size() - 1; p >= 0; p--) {
                for (int q = size() - 1; q > p; q--) {
                    int n = learns(p, q) + learns(q, p);
                    if (best == NONE || what == 0 && n >= had || what == 1 && n <= had) {
                        best = 10 * p + q;
                        had = n;
                    }
                }
            }
            return best;
        }

        int bits(int m, int p) {
            if (!is(p)) {
                return no(-2);
            }
            int bits = 0;
            for (int q = 0; q < size(); q++) {
                boolean in = q != p && (m == 53 ? at(p).wrongBehind(at(q), minutes)
                        : m == 54 ? speaks(p, q) == 0 : !at(p).met.contains(q));
                bits += in ? 1 << q : 0;
            }
            return bits;
        }

        int told(int m, int s, int n) {
            if (!in(s, 0, 7) || !in(n, 0, 20)) {
                return no(-2);
            }
            if (shelves[s] == null) {
                return no(-4);
            }
            if (!(shelves[s] instanceof long[])) {
                return no(-3);
            }
            long[] e = (long[]) shelves[s];
            if (e.length < 2 * n) {
                return no(-2);
            }
            int at = firstWrong(e, n);
            if (m == 56) {
                return at;
            }
            if (at != NONE) {
                return no(-5);
            }
            Model t = twin();
            int sum = 0;
            for (int k = 0; k < n; k++) {
                sum += t.talk((int) e[2 * k], (int) e[2 * k + 1]);
            }
            return sum;
        }

        int firstWrong(long[] e, int n) {
            for (int k = 0; k < n; k++) {
                long x = e[2 * k];
                long y = e[2 * k + 1];
                if (x != (int) x || y != (int) y || !two((int) x, (int) y)) {
                    return k;
                }
                int half = size() / 2;
                for (int i = 0; i < k; i++) {
                    long u = e[2 * i];
                    long v = e[2 * i + 1];
                    boolean sameRound = i / half == k / half;
                    if (sameRound && (u == x || u == y || v == x || v == y)
                            || u == x && v == y || u == y && v == x) {
                        return k;
                    }
                }
            }
            return NONE;
        }

        int draw(int n) {
            seed = seed * 1103515245 + 12345;
            return (int) ((seed & 0xFFFFFFFFL) >> 16) % n;
        }

        int drawn(int n) {
            if (!in(n, 1, 40)) {
                return no(-2);
            }
            int sum = 0;
            for (int e = 0; e < n; e++) {
                List<Integer> there = new ArrayList<>();
                for (int p = 0; p < size(); p++) {
                    if (draw(12) >= absent) {
                        there.add(p);
                    }
                }
                for (int i = 0; i + 1 < there.size(); i += 2) {
                    sum += talk(there.get(i), there.get(i + 1));
                }
                evenings++;
            }
            return sum;
        }

        int back() {
            if (kept == null) {
                return no(-5);
            }
            Model m = kept.twin();
            people = m.people;
            minutes = m.minutes;
            absent = m.absent;
            evenings = m.evenings;
            seed = m.seed;
            for (int s = 0; s < 8; s++) {
                if (shelves[s] instanceof Integer && (Integer) shelves[s] >= size()) {
                    shelves[s] = null;
                }
            }
            return 1;
        }

        int status(int what) {
            switch (what) {
                case 0: return size();
                case 1: return minutes;
                case 2: return absent;
                case 3: return evenings;
                case 4: return words();
                case 5: return Integer.bitCount(wrongOnes());
                case 6: return tape.length();
                case 7: return seed;
                case 8:
                    int n = 0;
                    for (Object o : shelves) {
                        n += o == null ? 0 : 1;
                    }
                    return n;
                default: return what >= 12 && what <= 16 ? refused[what - 10] : NONE;
            }
        }

        int personOf(int p, int what) {
            if (!is(p) || !in(what, 0, 4)) {
                return no(-2);
            }
            int met = 0;
            for (int q : at(p).met) {
                met += 1 << q;
            }
            int[] all = {at(p).kind, at(p).a, at(p).words, at(p).wrong ? 1 : 0, met};
            return all[what];
        }

        int holds(int s) {
            if (!in(s, 0, 7) || shelves[s] == null) {
                return NONE;
            }
            return shelves[s] instanceof Integer ? 10 + (Integer) shelves[s] : sorts[s];
        }

        long element(int s, int i) {
            if (!in(s, 0, 7) || !(shelves[s] instanceof long[])) {
                return 0;
            }
            long[] e = (long[]) shelves[s];
            return i >= 0 && i < e.length ? e[i] : 0;
        }

        int set(int s, int i, long v) {
            if (!in(s, 0, 7)) {
                return no(-2);
            }
            if (shelves[s] instanceof Integer) {
                return no(-3);
            }
            if (shelves[s] == null) {
                return no(-4);
            }
            long[] e = (long[]) shelves[s];
            if (!in(i, 0, e.length - 1)) {
                return no(-2);
            }
            int[] shift = {56, 48, 32, 0};
            e[i] = sorts[s] == 4 ? v == 0 ? 0 : 1 : v << shift[sorts[s]] >> shift[sorts[s]];
            return 1;
        }

        int copy(int p, int q, int i, int j, int n) {
            if (!in(p, 0, 7) || !in(q, 0, 7)) {
                return no(-2);
            }
            Object from = shelves[p];
            Object to = shelves[q];
            if (from instanceof Integer || to instanceof Integer
                    || from != null && to != null && sorts[p] != sorts[q]) {
                return no(-3);
            }
            if (from == null || to == null) {
                return no(-4);
            }
            long[] e = ((long[]) from).clone();
            long[] f = (long[]) to;
            if (i < 0 || j < 0 || n < 0 || (long) i + n > e.length || (long) j + n > f.length) {
                return no(-2);
            }
            for (int k = 0; k < n; k++) {
                f[j + k] = e[i + k];
            }
            return n;
        }

        int says(int s, int kind) {
            if (!in(s, 0, 7) || !in(kind, 0, 5)) {
                return no(-2);
            }
            if (shelves[s] == null) {
                return no(-4);
            }
            if (!(shelves[s] instanceof Integer)) {
                return no(-3);
            }
            P p = at((Integer) shelves[s]);
            if (kind == 0) {
                return p.a;
            }
            boolean is = p.kind == kind || p.kind == 3 && kind == 1 || p.kind == 4 && kind == 2;
            return is ? p.speaks(at(0), minutes) : no(-3);
        }

        int feed(int letter) {
            if (!in(letter, 0, 255)) {
                return no(-2);
            }
            if (tape.length() == 250) {
                return no(-6);
            }
            tape.append((char) letter);
            return tape.length();
        }

        int group() {
            List<String> tokens = new ArrayList<>();
            List<Integer> places = new ArrayList<>();
            String t = tape.toString();
            int i = 0;
            while (i < t.length()) {
                int j = i + 1;
                char c = t.charAt(i);
                String sort = c >= 'a' && c <= 'z' ? "[a-z]" : c >= '0' && c <= '9' ? "[0-9]" : "";
                while (j < t.length() && !sort.isEmpty() && t.substring(j, j + 1).matches(sort)) {
                    j++;
                }
                if (c != ' ') {
                    tokens.add(t.substring(i, j));
                    places.add(i);
                }
                i = j;
            }
            places.add(t.length());
            tape.setLength(0);
            Model m = twin();
            int k = 0;
            int statements = 0;
            boolean more = true;
            while (more) {
                int next = m.statement(tokens, k);
                if (next < 0) {
                    no(-2);
                    return -20 - places.get(Math.min(-next - 1, tokens.size()));
                }
                statements++;
                k = next;
                more = k < tokens.size();
                if (more && !tokens.get(k).equals(";")) {
                    no(-2);
                    return -20 - places.get(k);
                }
                k++;
            }
            Model before = kept;
            kept = m;
            back();
            kept = before;
            return statements;
        }

        /** The place behind the statement; -1 less the place of the token that can't stand there. */
        int statement(List<String> tokens, int k) {
            String word = k < tokens.size() ? tokens.get(k) : "";
            String[] words = {"person", "wrong", "right", "words", "minutes", "absent"};
            int which = Arrays.asList(words).indexOf(word);
            if (which < 0 || which == 0 && size() == 8) {
                return -1 - k;
            }
            int last = size() - 1;
            int[][] least = {{0, 0, 0}, {0}, {0}, {0, 0}, {1}, {0}};
            int[][] most = {{5, 9, 99}, {last}, {last}, {last, 99}, {9}, {12}};
            int[] v = new int[3];
            for (int i = 0; i < least[which].length; i++) {
                int place = k + 1 + i;
                String number = place < tokens.size() ? tokens.get(place) : "";
                if (!number.matches("[0-9]{1,2}")) {
                    return -1 - place;
                }
                v[i] = Integer.parseInt(number);
                if (!in(v[i], least[which][i], most[which][i]) || which == 1 && at(v[i]).kind == 5) {
                    return -1 - place;
                }
            }
            switch (which) {
                case 0: add(v[0], v[1], v[2]); break;
                case 1: at(v[0]).wrong = true; break;
                case 2: at(v[0]).wrong = false; break;
                case 3: at(v[0]).words = v[1]; break;
                case 4: minutes = v[0]; break;
                default: absent = v[0]; break;
            }
            return k + 1 + least[which].length;
        }

        int add(int kind, int a, int words) {
            P p = new P();
            p.kind = kind;
            p.a = a;
            p.words = words;
            people.add(p);
            return size() - 1;
        }

        long call(int m, int[] a) {
            return m < 34 ? firstHalf(m, a) : secondHalf(m, a);
        }

        int withTwo(int m, int p, int q) {
            if (!two(p, q)) {
                return no(-2);
            }
            switch (m) {
                case 14: return speaks(p, q);
                case 15: return learns(p, q);
                case 16: return at(p).wrongBehind(at(q), minutes) ? 1 : 0;
                case 17:
                    int both = speaks(p, q) + speaks(q, p);
                    return both == 0 ? no(-5) : 1000 * speaks(p, q) / both;
                case 20:
                    int r = 0;
                    while (partner(p, r) != q) {
                        r++;
                    }
                    return r;
                default: return talk(p, q);
            }
        }

        long firstHalf(int m, int[] a) {
            switch (m) {
                case 0:
                    if (!in(a[0], 0, 7) || !in(a[1], 0, 4) || !in(a[2], 0, 40)) {
                        return no(-2);
                    }
                    shelves[a[0]] = new long[a[2]];
                    sorts[a[0]] = a[1];
                    return 1;
                case 1: return set(a[0], a[1], wide(a[2]));
                case 2: return copy(a[0], a[1], a[2], a[3], a[4]);
                case 3: return element(a[0], a[1]);
                case 4: return holds(a[0]);
                case 5:
                    if (!in(a[0], 0, 7) || a[1] != NONE && !is(a[1])) {
                        return no(-2);
                    }
                    shelves[a[0]] = a[1] == NONE ? null : (Object) a[1];
                    return 1;
                case 6:
                    if (!in(a[0], 0, 5) || !in(a[1], 0, 9) || !in(a[2], 0, 99)) {
                        return no(-2);
                    }
                    return size() == 8 ? no(-6) : add(a[0], a[1], a[2]);
                case 7:
                    if (!is(a[0]) || !in(a[1], 0, 99)) {
                        return no(-2);
                    }
                    int w = at(a[0]).words;
                    at(a[0]).words = a[1];
                    return w;
                case 8:
                    if (!is(a[0])) {
                        return no(-2);
                    }
                    if (at(a[0]).kind == 5 && a[1] != 0) {
                        return no(-5);
                    }
                    int was = at(a[0]).wrong ? 1 : 0;
                    at(a[0]).wrong = a[1] != 0;
                    return was;
                case 9:
                    if (!in(a[0], 0, 1) || a[0] == 0 && !in(a[1], 1, 9) || a[0] == 1 && !in(a[1], 0, 12)) {
                        return no(-2);
                    }
                    int before = a[0] == 0 ? minutes : absent;
                    minutes = a[0] == 0 ? a[1] : minutes;
                    absent = a[0] == 1 ? a[1] : absent;
                    return before;
                case 10: return feed(a[0]);
                case 11:
                    int size = tape.length();
                    tape.setLength(0);
                    return size;
                case 12: return group();
                case 13: return personOf(a[0], a[1]);
                case 14: case 15: case 16: case 17: case 20: return withTwo(m, a[0], a[1]);
                case 18: return rounds();
                case 19: return is(a[0]) && isRound(a[1]) ? partner(a[0], a[1]) : no(-2);
                case 21: return tonight(a[0], false);
                case 22: return rather();
                case 23: case 24: return ahead(m, a);
                case 25: return cured(a[0]);
                case 26: return listen(a[0]);
                case 27: return kinds(a[0], a[1], a[2]);
                case 28: return spans(a[0], a[1], a[2], a[3]);
                case 29: return hold(a[0]);
                case 30: return stay(a[0], a[1]);
                case 31:
                    if (a[1] == 1) {
                        return twin().play(0, rounds());
                    }
                    return a[1] == 0 && isRound(a[0]) ? learnedIn(a[0]) : no(-2);
                case 32: return best(a[0], a[1]);
                default: return first(a[0]);
            }
        }

        int ahead(int m, int[] a) {
            int r = m == 23 ? a[1] : a[0];
            if (!in(r, 0, rounds()) || m == 23 && !is(a[0])) {
                return no(-2);
            }
            Model t = twin();
            t.play(0, r);
            return m == 23 ? t.at(a[0]).words : t.wrongOnes();
        }

        int ofKind(int kind) {
            return (int) people.stream().filter(p -> p.kind == kind).count();
        }

        long secondHalf(int m, int[] a) {
            switch (m) {
                case 34: case 36: case 38: case 43: case 46: return inRound(m, a[0]);
                case 35: return bestRound(a[0]);
                case 37: return minutesFor(a[0], a[1], a[2]);
                case 39: return bestAway();
                case 40: return often(a[0], a[1], a[2]);
                case 41: case 53: case 54: return bits(m, a[0]);
                case 42: return people.stream().mapToInt(p -> p.met.size()).sum() / 2;
                case 44: return all(a[0], a[1]);
                case 45: return fair();
                case 47:
                    if (!in(a[0], 0, 5) || !in(a[1], 0, 5)) {
                        return no(-2);
                    }
                    int pairs = 0;
                    for (int p = 0; p < size(); p++) {
                        for (int q = p + 1; q < size(); q++) {
                            int k = at(p).kind;
                            int l = at(q).kind;
                            pairs += k == a[0] && l == a[1] || k == a[1] && l == a[0] ? 1 : 0;
                        }
                    }
                    return pairs;
                case 48: return turned(a[0], a[1] != 0);
                case 49: return until(a[0]);
                case 50: return likes(a[0], a[1]);
                case 51: return bestPair(a[0]);
                case 52: return tonight(a[0], true);
                case 55: return in(a[0], 0, 5) ? ofKind(a[0]) : no(-2);
                case 56: case 57: return told(m, a[0], a[1]);
                case 58: return withTwo(m, a[0], a[1]);
                case 59:
                    if (!in(a[0], 1, rounds())) {
                        return no(-2);
                    }
                    evenings++;
                    return play(0, a[0]);
                case 60: return drawn(a[0]);
                case 61:
                    int had = seed;
                    seed = a[0];
                    return had;
                case 62:
                    kept = twin();
                    return 1;
                case 63: return back();
                case 64: return status(a[0]);
                case 65:
                    int size = tape.length();
                    tape.setLength(0);
                    return size;
                default: return says(a[0], a[1]);
            }
        }
    }
}
