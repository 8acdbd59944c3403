import java.io.IOException;
import java.lang.reflect.Field;
import java.lang.reflect.Method;
import java.lang.reflect.Modifier;
import java.nio.charset.StandardCharsets;
import java.nio.file.Files;
import java.nio.file.Path;
import java.util.ArrayList;
import java.util.Arrays;
import java.util.List;
import java.util.Set;
import java.util.TreeSet;

/** The document's face, whole and nothing beside it, and the words that LANGUAGE.md leaves out. */
public final class FaceTest {
    private static final String[] FACE = {
        "int person(int,int,int,int)", "int of(int,int)", "int off(int,int)", "int due(int,int)",
        "int away(int,boolean)", "int row(int,int,int)", "int feed(int)", "int town()", "int told(int)",
        "int pass(int)", "int on(int,int)", "int until(int)", "int prompt()", "int best(int)", "int when(int)",
        "int apart(int,int,int)", "int who(int,int)", "int see(int,int,int)", "int was(int,int)", "int can(int,int)",
        "long odds(int,int)", "long mean(int,int)", "int week(int,int)", "int gone(int)", "int book(int,int)",
        "int looked()", "int judge(int,int)", "int image()", "int undo()", "int act(int,int,int)", "int trace(int)",
        "int taken(int,int)", "int count(int)", "int tape(int,int,int)", "int item(int,int,long)", "long read(int,int)",
        "int shift(int,int,int,int,int)"};
    private static final String[] LEFT_OUT = {"throw", "throws", "try", "catch", "finally", "synchronized", "assert",
        "System.out", "System.nanoTime", "Thread", "Random", "getClass", "hashCode", "->", "::", "package ", "@"};

    public static void main(String[] args) throws IOException {
        Checks c = new Checks("FaceTest");
        face(c);
        constants(c);
        inside(c);
        sizes(c);
        fields(c);
        words(c);
        signs(c);
        c.end();
    }

    private static void face(Checks c) {
        Class<?> type = PealOfExcuses.class;
        c.due("public final", type.getModifiers() & (Modifier.PUBLIC | Modifier.FINAL), Modifier.PUBLIC | Modifier.FINAL);
        c.due("constructors", type.getDeclaredConstructors().length, 1);
        c.due("public constructors", type.getConstructors().length, 1);
        c.due("its parameters", type.getDeclaredConstructors()[0].getParameterCount(), 0);
        Set<String> there = new TreeSet<>();
        Set<String> hidden = new TreeSet<>();
        for (Method m : type.getDeclaredMethods()) {
            if (Modifier.isPrivate(m.getModifiers())) {
                hidden.add(m.getName());
            } else {
                StringBuilder types = new StringBuilder();
                for (Class<?> t : m.getParameterTypes()) {
                    types.append(types.length() == 0 ? "" : ",").append(t.getName());
                }
                there.add(m.getReturnType().getName() + " " + m.getName() + "(" + types + ")");
                c.holds("public: " + m, Modifier.isPublic(m.getModifiers()) && !Modifier.isStatic(m.getModifiers()));
            }
        }
        c.holds("the face is " + there, there.equals(new TreeSet<>(Arrays.asList(FACE))));
        for (String call : FACE) {
            String name = call.substring(call.indexOf(' ') + 1, call.indexOf('('));
            c.holds("no private method is named " + name, !hidden.contains(name));
        }
    }

    private static void constants(Checks c) {
        c.due("NONE", PealOfExcuses.NONE, -1);
        c.due("BAD", PealOfExcuses.BAD, -2);
        c.due("STATE", PealOfExcuses.STATE, -3);
        c.due("FULL", PealOfExcuses.FULL, -4);
        c.due("NO", PealOfExcuses.NO, Long.MIN_VALUE);
        int open = 0;
        for (Field f : PealOfExcuses.class.getDeclaredFields()) {
            open += Modifier.isPrivate(f.getModifiers()) ? 0 : 1;
            c.holds("a constant: " + f, !Modifier.isStatic(f.getModifiers()) || Modifier.isFinal(f.getModifiers()));
        }
        c.due("constants", open, 5);
    }

    private static void inside(Checks c) {
        for (Class<?> inner : PealOfExcuses.class.getDeclaredClasses()) {
            int modifiers = inner.getModifiers();
            c.holds("static: " + inner, Modifier.isStatic(modifiers));
            c.holds("not open: " + inner, !Modifier.isPublic(modifiers) && !Modifier.isProtected(modifiers));
        }
    }

    private static List<Class<?>> classes() {
        List<Class<?>> all = new ArrayList<>(Arrays.asList(PealOfExcuses.class.getDeclaredClasses()));
        all.add(PealOfExcuses.class);
        return all;
    }

    /** LANGUAGE.md, rule 11, which says "some twelve classes" and "some twenty fields". */
    private static void sizes(Checks c) {
        c.holds("some twelve classes at most", classes().size() <= 14);
        for (Class<?> type : classes()) {
            int count = 0;
            for (Field f : type.getDeclaredFields()) {
                count += Modifier.isStatic(f.getModifiers()) ? 0 : 1;
            }
            c.holds("some twenty fields at most in " + type, count <= 23);
            for (Method m : type.getDeclaredMethods()) {
                c.holds("seven parameters at most: " + m, m.getParameterCount() <= 7);
            }
        }
    }

    /** LANGUAGE.md, rules 3 and 5. */
    private static void fields(Checks c) {
        Set<Class<?>> constants = Set.of(int.class, long.class, boolean.class, char.class, String.class, int[].class,
            long[].class, char[].class, byte[].class);
        for (Class<?> type : classes()) {
            for (Field f : type.getDeclaredFields()) {
                boolean isStatic = Modifier.isStatic(f.getModifiers());
                c.holds("final: " + f, !isStatic || Modifier.isFinal(f.getModifiers()));
                c.holds("a constant's type: " + f, !isStatic || constants.contains(f.getType()));
                Class<?> item = f.getType().isArray() ? f.getType().getComponentType() : f.getType();
                boolean own = item.getName().startsWith("PealOfExcuses");
                c.holds("a type that stands in rule 3: " + f, item.isPrimitive() || own || item == String.class);
            }
        }
    }

    /** LANGUAGE.md, rules 3 and 10: only signs 1 to 127, and no text joined by +. */
    private static void signs(Checks c) throws IOException {
        byte[] bytes = Files.readAllBytes(Path.of("src/main/java/PealOfExcuses.java"));
        int strange = 0;
        for (byte sign : bytes) {
            strange += sign < 1 ? 1 : 0;
        }
        c.due("signs beyond 127", strange, 0);
        String code = new String(bytes, StandardCharsets.US_ASCII);
        c.holds("no text joined by +", !code.matches("(?s).*(\"\\s*\\+[^+]|[^+]\\+\\s*\").*"));
    }

    private static void words(Checks c) throws IOException {
        byte[] bytes = Files.readAllBytes(Path.of("src/main/java/PealOfExcuses.java"));
        String code = new String(bytes, StandardCharsets.UTF_8).replaceAll("/\\*(?s:.*?)\\*/|//[^\n]*|\"[^\"\n]*\"", " ");
        for (String word : LEFT_OUT) {
            boolean plain = Character.isLetter(word.charAt(0));
            boolean stands = plain ? code.matches("(?s).*\\b" + word + "\\b.*") : code.contains(word);
            c.holds("without " + word, !stands);
        }
        for (String line : code.split("\n")) {
            if (line.startsWith("import ")) {
                c.holds(line, line.matches("import java\\.util\\.(ArrayList|List|Arrays|Iterator);\\s*"));
            }
        }
    }
}
