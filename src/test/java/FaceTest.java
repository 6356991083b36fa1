import java.lang.reflect.Constructor;
import java.lang.reflect.Field;
import java.lang.reflect.Method;
import java.lang.reflect.Modifier;
import java.util.Set;
import java.util.StringJoiner;
import java.util.TreeSet;

/** The class's face is the document's: no member is missing, none is there beside it. */
public final class FaceTest {
    private static final Check CHECK = new Check("FaceTest");
    /** The document's block under "The public face", letter by letter. */
    private static final String DOCUMENT = """
        public static final int NONE = -1;
        public static final int HIDDEN = -1000000;
        public SmokedSecrets();
        public int feed(int a, int b, int c, int d, int e);
        public boolean end(int n);
        public int fault(int sort);
        public int text(int sort);
        public int rule(int what);
        public int person(int person, int what) throws NoSuchElementException;
        public int secret(int secret, int what);
        public int breath(int person, int secret);
        public boolean law(int law);
        public int nights(int n);
        public int hang(int secret);
        public int veers(int way);
        public int moves(int person, int way);
        public int oak(int n);
        public int give(int n);
        public boolean gusts(int v);
        public int years(int n, long seed);
        public int status(int what);
        public int undo();
        public int log(int i, int what);
        public int strength(int secret, int cell);
        public int smells(int secret);
        public int air(int cell);
        public int soon(int person, int secret);
        public int ready(int secret);
        public int kept(int secret, int persons, int what);
        public int noted(int secret, int cell, boolean is);
        public int heavies(int secret, int i);
        public int ask(int secret);
        public int worthwhile(int what);
        public int out(int person, int what);
        public int game(int one, int other, int x, int y, int what);
        public int rests(int one, int other, int i);
        public int odds(int person, int secret, int n, int chance);
        public int shares(int person, int c);
        public int most(int what);
        public int image();
        public int back();
        public int count(int what);
        """;

    private FaceTest() {
    }

    public static void main(String[] args) throws IllegalAccessException {
        Set<String> due = faceOfDocument();
        Set<String> there = faceOfClass();
        CHECK.due("two constants, a constructor, forty promises less one", 2 + 1 + 39, due.size());
        for (String one : due) {
            CHECK.due("there: " + one, true, there.contains(one));
        }
        for (String one : there) {
            CHECK.due("in the document: " + one, true, due.contains(one));
        }
        int modifiers = SmokedSecrets.class.getModifiers();
        CHECK.due("public and final", true, Modifier.isPublic(modifiers) && Modifier.isFinal(modifiers));
        classesInside(publicNames());
        CHECK.end();
    }

    private static Set<String> faceOfDocument() {
        Set<String> face = new TreeSet<>();
        for (String line : DOCUMENT.split("\n")) {
            face.add(withoutNames(line.strip().replace(";", "")));
        }
        return face;
    }

    /** "public int end(int n)" as "public int end(int)". */
    private static String withoutNames(String line) {
        int open = line.indexOf('(');
        if (open < 0) {
            return line;
        }
        int close = line.indexOf(')');
        StringJoiner types = new StringJoiner(", ");
        for (String one : line.substring(open + 1, close).split(", ")) {
            types.add(one.split(" ")[0]);
        }
        return line.substring(0, open + 1) + types + line.substring(close);
    }

    private static Set<String> faceOfClass() throws IllegalAccessException {
        Set<String> face = new TreeSet<>();
        for (Field one : SmokedSecrets.class.getDeclaredFields()) {
            if (!Modifier.isPrivate(one.getModifiers())) {
                face.add(Modifier.toString(one.getModifiers()) + " " + one.getType().getSimpleName() + " "
                    + one.getName() + " = " + one.get(null));
            }
        }
        for (Constructor<?> one : SmokedSecrets.class.getDeclaredConstructors()) {
            if (!Modifier.isPrivate(one.getModifiers())) {
                face.add(Modifier.toString(one.getModifiers()) + " SmokedSecrets" + told(one.getParameterTypes()));
            }
        }
        for (Method one : SmokedSecrets.class.getDeclaredMethods()) {
            if (!Modifier.isPrivate(one.getModifiers())) {
                face.add(Modifier.toString(one.getModifiers()) + " " + one.getReturnType().getSimpleName() + " "
                    + one.getName() + told(one.getParameterTypes()) + thrown(one));
            }
        }
        return face;
    }

    private static String told(Class<?>[] types) {
        StringJoiner names = new StringJoiner(", ", "(", ")");
        for (Class<?> one : types) {
            names.add(one.getSimpleName());
        }
        return names.toString();
    }

    private static String thrown(Method method) {
        StringBuilder names = new StringBuilder();
        for (Class<?> one : method.getExceptionTypes()) {
            names.append(names.length() == 0 ? " throws " : ", ").append(one.getSimpleName());
        }
        return names.toString();
    }

    private static Set<String> publicNames() {
        Set<String> names = new TreeSet<>();
        for (Method one : SmokedSecrets.class.getMethods()) {
            if (one.getDeclaringClass() == SmokedSecrets.class) {
                names.add(one.getName());
            }
        }
        return names;
    }

    /** LANGUAGE.md, rules 1 and 11: private or package-visible and static; some twelve; no name of a public method. */
    private static void classesInside(Set<String> publicNames) {
        Class<?>[] inside = SmokedSecrets.class.getDeclaredClasses();
        CHECK.due("some twelve classes", true, inside.length <= 12);
        for (Class<?> one : inside) {
            int modifiers = one.getModifiers();
            CHECK.due(one + " is seen from outside", false,
                Modifier.isPublic(modifiers) || Modifier.isProtected(modifiers));
            CHECK.due(one + " is static", true, Modifier.isStatic(modifiers));
            for (Method method : one.getDeclaredMethods()) {
                CHECK.due(one + " bears the name of " + method, false, publicNames.contains(method.getName()));
            }
        }
        for (Method method : SmokedSecrets.class.getDeclaredMethods()) {
            boolean isPrivate = Modifier.isPrivate(method.getModifiers());
            CHECK.due(method + " bears a public one's name", false, isPrivate && publicNames.contains(method.getName()));
        }
    }
}
