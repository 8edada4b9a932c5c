import java.util.ArrayList;
import java.util.List;

/** All that an object tells of itself; taking it uses the object up: THE TAPE is read and the image comes back. */
final class Snapshot {
    private final List<String> names = new ArrayList<>();
    private final List<Long> values = new ArrayList<>();

    static Snapshot of(InTwosInSpanish x) {
        Snapshot s = new Snapshot();
        for (int sort = 0; sort < 5; sort++) {
            s.add("status(" + (12 + sort) + ")", x.status(12 + sort));
        }
        s.addClass("", x);
        s.addElements(x);
        s.add("group()", x.group());
        s.addClass("behind group() ", x);
        s.add("back()", x.back());
        s.addClass("behind back() ", x);
        return s;
    }

    void addRefusal(int sort) {
        values.set(sort, values.get(sort) + 1);
    }

    /** The first that differs, told in words; null: nothing does. */
    String differenceTo(Snapshot other) {
        int n = Math.min(values.size(), other.values.size());
        for (int i = 0; i < n; i++) {
            if (!names.get(i).equals(other.names.get(i))) {
                return "another thing is there: " + names.get(i);
            }
            if (!values.get(i).equals(other.values.get(i))) {
                return names.get(i) + " is " + values.get(i) + ", due is " + other.values.get(i);
            }
        }
        return values.size() == other.values.size() ? null : "there is more or less than is due";
    }

    private void add(String name, long value) {
        names.add(name);
        values.add(value);
    }

    private void addClass(String when, InTwosInSpanish x) {
        for (int what = 0; what <= 8; what++) {
            add(when + "status(" + what + ")", x.status(what));
        }
        for (int s = 0; s < 8; s++) {
            add(when + "holds(" + s + ")", x.holds(s));
        }
        int people = x.status(0);
        for (int p = 0; p < people; p++) {
            for (int what = 0; what < 5; what++) {
                add(when + "personOf(" + p + ", " + what + ")", x.personOf(p, what));
            }
        }
    }

    private void addElements(InTwosInSpanish x) {
        for (int s = 0; s < 8; s++) {
            int held = x.holds(s);
            for (int i = 0; i < 40 && held >= 0 && held < 5; i++) {
                add("element(" + s + ", " + i + ")", x.element(s, i));
            }
        }
    }
}
