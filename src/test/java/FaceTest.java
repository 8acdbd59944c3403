import java.lang.reflect.Field;
import java.lang.reflect.Method;
import java.lang.reflect.Modifier;
import java.util.Arrays;
import java.util.Set;
import java.util.TreeSet;

/** The document's face, whole and nothing beside it (LANGUAGE.md, rule 1). */
public final class FaceTest {
    private static final String[] FACE = {
        "int person(int,int,int,int)", "int of(int,int)", "int off(int,int)", "int due(int,int)",
        "int away(int,boolean)", "int row(int,int,int)", "int feed(int)", "int town()", "int told(int)",
        "int pass(int)", "int on(int,int)", "int until(int)", "int prompt()", "int best(int)", "int when(int)",
        "int apart(int,int,int)", "int who(int,int)", "int see(int,int,int)", "int was(int,int)", "int can(int,int)",
        "long odds(int,int)", "long mean(int,int)", "int week(int,int)", "int gone(int)", "int book(int,int)",
        "int looked()", "int judge(int,int)", "int image()", "int undo()", "int act(int,int,int)", "int trace(int)",
        "int taken(int,int)", "int count(int)", "int tape(int,int,int)", "int item(int,int,long)", "long read(int,int)",
        "int shift(int,int,int,int,int)"};

    public static void main(String[] args) {
        Checks c = new Checks("FaceTest");
        face(c);
        constants(c);
        inside(c);
        c.end();
    }

    private static void face(Checks c) {
        Class<?> type = PealOfExcuses.class;
        c.due("public final", type.getModifiers() & (Modifier.PUBLIC | Modifier.FINAL), Modifier.PUBLIC | Modifier.FINAL);
        c.due("constructors", type.getDeclaredConstructors().length, 1);
        c.due("public constructors", type.getConstructors().length, 1);
        c.due("its parameters", type.getDeclaredConstructors()[0].getParameterCount(), 0);
        Set<String> there = new TreeSet<>();
        Set<String> hidden = new TreeSet<>();
        for (Method m : type.getDeclaredMethods()) {
            if (Modifier.isPrivate(m.getModifiers())) {
                hidden.add(m.getName());
            } else {
                StringBuilder types = new StringBuilder();
                for (Class<?> t : m.getParameterTypes()) {
                    types.append(types.length() == 0 ? "" : ",").append(t.getName());
                }
                there.add(m.getReturnType().getName() + " " + m.getName() + "(" + types + ")");
                c.holds("public: " + m, Modifier.isPublic(m.getModifiers()) && !Modifier.isStatic(m.getModifiers()));
            }
        }
        c.holds("the face is " + there, there.equals(new TreeSet<>(Arrays.asList(FACE))));
        for (String call : FACE) {
            String name = call.substring(call.indexOf(' ') + 1, call.indexOf('('));
            c.holds("no private method is named " + name, !hidden.contains(name));
        }
    }

    private static void constants(Checks c) {
        c.due("NONE", PealOfExcuses.NONE, -1);
        c.due("BAD", PealOfExcuses.BAD, -2);
        c.due("STATE", PealOfExcuses.STATE, -3);
        c.due("FULL", PealOfExcuses.FULL, -4);
        c.due("NO", PealOfExcuses.NO, Long.MIN_VALUE);
        int open = 0;
        for (Field f : PealOfExcuses.class.getDeclaredFields()) {
            open += Modifier.isPrivate(f.getModifiers()) ? 0 : 1;
            c.holds("a constant: " + f, !Modifier.isStatic(f.getModifiers()) || Modifier.isFinal(f.getModifiers()));
        }
        c.due("constants", open, 5);
    }

    private static void inside(Checks c) {
        for (Class<?> inner : PealOfExcuses.class.getDeclaredClasses()) {
            int modifiers = inner.getModifiers();
            c.holds("static: " + inner, Modifier.isStatic(modifiers));
            c.holds("not open: " + inner, !Modifier.isPublic(modifiers) && !Modifier.isProtected(modifiers));
        }
    }
}
