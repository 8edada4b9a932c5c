import java.io.IOException;
import java.lang.reflect.Constructor;
import java.lang.reflect.Field;
import java.lang.reflect.InvocationTargetException;
import java.lang.reflect.Method;
import java.lang.reflect.Modifier;
import java.nio.charset.StandardCharsets;
import java.nio.file.Files;
import java.nio.file.Path;
import java.util.Random;
import java.util.TreeSet;
import java.util.regex.Matcher;
import java.util.regex.Pattern;

/** The public face is the document's and no more, no call ever throws, and the source keeps to LANGUAGE.md. */
public final class FaceTest {
    private static final String FACE = "row(int,int,int) set(int,int,long) copy(int,int,int,int,int) element(int,int):long "
            + "holds(int) show(int,int) says(int,int) person(int,int,int) words(int,int) wrong(int,boolean) tell(int,int) "
            + "feed(int) wipe() group() personOf(int,int) speaks(int,int) learns(int,int) after(int,int) share(int,int) "
            + "rounds() partner(int,int) round(int,int) tonight(int) rather() ahead(int,int) spread(int) cured(int) "
            + "listen(int) kinds(int,int,int) spans(int,int,int,int) hold(int) stay(int,int) lesson(int,int) best(int,int) "
            + "first(int) silent(int) bestRound(int) gap(int) minutesFor(int,int,int) gain(int) bestAway() "
            + "often(int,int,int) unmet(int) met() noise(int) all(int,int) fair() sitsOut(int) mixed(int,int) "
            + "turned(int,boolean) until(int) likes(int,int) bestPair(int) fresh(int) harm(int) dumb(int) ofKind(int) "
            + "judge(int,int) learned(int,int) talk(int,int) evening(int) drawn(int) seed(int) image() back() status(int)";
    private static int wrong = 0;

    public static void main(String[] args) throws Exception {
        face();
        nestedNames();
        source();
        neverThrows();
        System.out.println("the face, the language and odd arguments: " + wrong + " wrong");
        if (wrong != 0) {
            System.exit(1);
        }
    }

    private static void check(String what, boolean is) {
        if (!is) {
            wrong++;
            System.out.println(what);
        }
    }

    private static void face() {
        TreeSet<String> want = new TreeSet<>();
        for (String s : FACE.split(" ")) {
            want.add(s.contains(":") ? s : s + ":int");
        }
        TreeSet<String> got = new TreeSet<>();
        for (Method m : InTwosInSpanish.class.getDeclaredMethods()) {
            if (!Modifier.isPrivate(m.getModifiers())) {
                StringBuilder s = new StringBuilder(m.getName()).append('(');
                for (Class<?> c : m.getParameterTypes()) {
                    s.append(s.charAt(s.length() - 1) == '(' ? "" : ",").append(c.getName());
                }
                got.add(s.append("):").append(m.getReturnType().getName()).toString());
                check(m + " isn't just public", m.getModifiers() == Modifier.PUBLIC);
            }
        }
        check("the face is " + got + ", not " + want, got.equals(want));
        int fields = 0;
        for (Field f : InTwosInSpanish.class.getDeclaredFields()) {
            fields += Modifier.isPrivate(f.getModifiers()) ? 0 : 1;
        }
        check("there are other constants than NONE", fields == 1 && InTwosInSpanish.NONE == -1);
        Constructor<?>[] made = InTwosInSpanish.class.getDeclaredConstructors();
        check("the constructor", made.length == 1 && made[0].getModifiers() == Modifier.PUBLIC
                && made[0].getParameterCount() == 0);
        check("the class", InTwosInSpanish.class.getModifiers() == (Modifier.PUBLIC | Modifier.FINAL));
    }

    private static void nestedNames() {
        TreeSet<String> names = new TreeSet<>();
        for (String s : FACE.split(" ")) {
            names.add(s.substring(0, s.indexOf('(')));
        }
        int classes = 1;
        for (Class<?> c : InTwosInSpanish.class.getDeclaredClasses()) {
            classes++;
            check(c + " isn't static", Modifier.isStatic(c.getModifiers()));
            check(c + " is public", !Modifier.isPublic(c.getModifiers()));
            for (Method m : c.getDeclaredMethods()) {
                check(m + " bears the name of a public one", !names.contains(m.getName()));
                check(m + " takes too many parameters", m.getParameterCount() <= 7);
            }
        }
        for (Method m : InTwosInSpanish.class.getDeclaredMethods()) {
            boolean isPrivate = Modifier.isPrivate(m.getModifiers());
            check(m + " bears the name of a public one", !isPrivate || !names.contains(m.getName()));
        }
        check("there are too many classes", classes <= 12);
    }

    private static void source() throws IOException {
        String text = Files.readString(Path.of("src/main/java/InTwosInSpanish.java"), StandardCharsets.UTF_8);
        String code = text.replaceAll("(?s)/\\*.*?\\*/", " ").replaceAll("//[^\n]*", " ");
        String[] banned = {"throw", "throws", "try", "catch", "synchronized", "assert", "package", "import", "native",
            "volatile", "Object", "Exception", "double", "float", "var", "hashCode", "toString", "Exact"};
        for (String word : banned) {
            check("the source has " + word, !Pattern.compile("\\b" + word + "\\b").matcher(code).find());
        }
        check("the source has a lambda or a method reference", !code.contains("->") && !code.contains("::"));
        Matcher made = Pattern.compile("\\bnew\\b").matcher(code);
        int bodies = code.indexOf("public int row(");
        while (made.find()) {
            boolean inField = code.substring(code.lastIndexOf('\n', made.start()), made.start()).contains(" final ");
            check("a call makes an object", made.start() < bodies || inField);
        }
        for (int i = 0; i < text.length(); i++) {
            check("the source has a sign beyond 127", text.charAt(i) < 128);
        }
    }

    /** Any ints, also the farthest, in many states. */
    private static void neverThrows() throws IllegalAccessException {
        int[] odd = {Integer.MIN_VALUE, Integer.MAX_VALUE, -1, 0, 1, 2, 3, 5, 7, 8, 9, 12, 20, 40, 99, 255, 999, 1000};
        Method[] methods = InTwosInSpanish.class.getMethods();
        java.util.Arrays.sort(methods, (m, n) -> m.toString().compareTo(n.toString()));
        Random random = new Random(5);
        for (int run = 0; run < 2000; run++) {
            InTwosInSpanish x = new InTwosInSpanish();
            int people = random.nextInt(9);
            for (int p = 0; p < people; p++) {
                x.person(random.nextInt(6), random.nextInt(10), random.nextInt(100));
            }
            for (int call = 0; call < 500; call++) {
                Method m = methods[random.nextInt(methods.length)];
                if (m.getDeclaringClass() != InTwosInSpanish.class) {
                    continue;
                }
                Object[] a = new Object[m.getParameterCount()];
                for (int i = 0; i < a.length; i++) {
                    Class<?> c = m.getParameterTypes()[i];
                    int v = odd[random.nextInt(odd.length)];
                    a[i] = c == boolean.class ? (Object) random.nextBoolean() : c == long.class ? (Object) (long) v : v;
                }
                try {
                    m.invoke(x, a);
                } catch (InvocationTargetException e) {
                    check(m + java.util.Arrays.toString(a) + " threw " + e.getCause(), false);
                }
            }
        }
    }
}
