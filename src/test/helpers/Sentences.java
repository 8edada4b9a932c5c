import java.io.IOException;
import java.lang.reflect.InvocationTargetException;
import java.lang.reflect.Method;
import java.util.ArrayList;
import java.util.HashMap;
import java.util.List;
import java.util.Map;

/**
 * Sentences of the document, each with calls of its own that must answer as it says. A test quotes each sentence; at
 * the end nothing of the sections that are its own may be left without a quote.
 */
final class Sentences {
    interface World {
        InTwosInSpanish make();
    }

    private static final int REFUSAL_SORTS = 5;

    private final Document document;
    private final Map<String, Method> methods = new HashMap<>();
    private final List<String> places = new ArrayList<>();
    private String place = "";
    private String sentence = "";
    private int checks = 0;
    private int ofSentence = 1;
    private int sentences = 0;
    private int wrong = 0;

    Sentences() throws IOException {
        document = new Document();
        for (Method m : InTwosInSpanish.class.getMethods()) {
            if (m.getDeclaringClass() == InTwosInSpanish.class) {
                methods.put(m.getName(), m);
            }
        }
    }

    /** The calls that follow are under this heading of the document, and all that it says will be quoted. */
    void under(String heading) {
        within(heading);
        places.add(heading);
    }

    /** The calls that follow are under this heading; not all that it says need be quoted. */
    void within(String heading) {
        place = heading;
    }

    void promise(int n) {
        under("Promise " + n);
    }

    /** The calls that follow are about these words of the document. */
    void sentence(String words) {
        endSentence();
        sentence = words;
        sentences++;
        ofSentence = 0;
        if (!document.quote(place, words)) {
            fail("the document doesn't say so, or it was quoted already");
        }
    }

    void due(String call, long got, long want) {
        checks++;
        ofSentence++;
        if (got != want) {
            fail(call + " answered " + got + ", due is " + want);
        }
    }

    /** A call that only asks: the answer is due, nothing is refused and nothing changes. */
    void asked(World world, long want, String method, long... a) {
        InTwosInSpanish x = world.make();
        String call = nameOf(method, a);
        due(call, call(x, method, a), want);
        sameAs(call, Snapshot.of(x), Snapshot.of(world.make()));
    }

    /** A refused call: the answer is due, and nothing changes but how many REFUSALS of that number there were. */
    void refused(World world, int code, String method, long... a) {
        InTwosInSpanish x = world.make();
        String call = nameOf(method, a);
        due(call, call(x, method, a), code);
        Snapshot want = Snapshot.of(world.make());
        want.addRefusal(-2 - code);
        sameAs(call, Snapshot.of(x), want);
    }

    /** The argument at a place may be from the least to the greatest; what lies beyond is BAD. */
    void range(World world, String method, int at, int least, int most, long... good) {
        long[] beyond = {least - 1L, most + 1L, Integer.MIN_VALUE, Integer.MAX_VALUE};
        for (long v : beyond) {
            if (v < least || v > most) {
                refused(world, -2, method, with(good, at, v));
            }
        }
        taken(world, method, with(good, at, least));
        taken(world, method, with(good, at, most));
    }

    /** A call that is not refused, whatever it answers. */
    void taken(World world, String method, long... a) {
        InTwosInSpanish x = world.make();
        InTwosInSpanish twin = world.make();
        call(x, method, a);
        for (int sort = 0; sort < REFUSAL_SORTS; sort++) {
            due(nameOf(method, a) + ", then REFUSALS " + (-2 - sort), x.status(12 + sort), twin.status(12 + sort));
        }
    }

    void end() {
        endSentence();
        for (String p : places) {
            for (String piece : document.unquoted(p)) {
                wrong++;
                System.out.println(p + ": no test quotes '" + piece + "'");
            }
        }
        System.out.println(sentences + " sentences, " + checks + " checks, " + wrong + " not as due");
        if (wrong != 0) {
            System.exit(1);
        }
    }

    private void endSentence() {
        if (ofSentence == 0) {
            fail("no check is about it");
        }
    }

    private void fail(String what) {
        wrong++;
        System.out.println(place + ", '" + sentence + "': " + what);
    }

    private void sameAs(String call, Snapshot got, Snapshot want) {
        checks++;
        String difference = got.differenceTo(want);
        if (difference != null) {
            fail("behind " + call + " " + difference);
        }
    }

    private long call(InTwosInSpanish x, String name, long... a) {
        Method m = methods.get(name);
        Class<?>[] types = m.getParameterTypes();
        Object[] arguments = new Object[a.length];
        for (int i = 0; i < a.length; i++) {
            if (types[i] == boolean.class) {
                arguments[i] = a[i] != 0;
            } else if (types[i] == long.class) {
                arguments[i] = a[i];
            } else {
                arguments[i] = (int) a[i];
            }
        }
        try {
            return ((Number) m.invoke(x, arguments)).longValue();
        } catch (IllegalAccessException | InvocationTargetException e) {
            throw new IllegalStateException(nameOf(name, a), e);
        }
    }

    private static long[] with(long[] good, int at, long v) {
        long[] a = good.clone();
        a[at] = v;
        return a;
    }

    private static String nameOf(String method, long... a) {
        StringBuilder name = new StringBuilder(method).append('(');
        for (int i = 0; i < a.length; i++) {
            name.append(i == 0 ? "" : ", ").append(a[i]);
        }
        return name.append(')').toString();
    }
}
