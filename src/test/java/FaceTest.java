import java.lang.reflect.Constructor;
import java.lang.reflect.Method;
import java.lang.reflect.Modifier;
import java.util.Arrays;
import java.util.TreeSet;
import java.util.stream.Collectors;

/** The class has the document's face, and no other member that is seen from outside. */
public final class FaceTest {
    private static final String[] DUE = {
        "int spawn()",
        "int fork(int) ISE",
        "int exit(int) ISE",
        "int open(int,int,int) ISE IAE",
        "int pipe(int) ISE",
        "int read(int,int,int) ISE IAE",
        "long given(int)",
        "int write(int,int,long,int) ISE IAE",
        "int close(int,int) ISE",
        "int dup(int,int,int) ISE IAE",
        "int seek(int,int,int,int) ISE IAE",
        "int unlink(int,int) ISE IAE",
        "int rename(int,int,int) ISE IAE",
        "int type(int) IAE",
        "int shown(int)",
        "int state(int,int)",
        "int about(int,int,int)",
        "int count(int)",
    };

    private FaceTest() {
    }

    private static String written(Method m) {
        String parameters = Arrays.stream(m.getParameterTypes()).map(Class::getName).collect(Collectors.joining(","));
        StringBuilder text = new StringBuilder(m.getReturnType() + " " + m.getName() + "(" + parameters + ")");
        for (Class<?> e : m.getExceptionTypes()) {
            text.append(e == IllegalStateException.class ? " ISE" : e == IllegalArgumentException.class ? " IAE" : " " + e);
        }
        return text.toString();
    }

    public static void main(String[] args) {
        Class<?> desk = DescriptorDesk.class;
        Expect.same("the class is public and final", desk.getModifiers(), Modifier.PUBLIC | Modifier.FINAL);
        TreeSet<String> got = new TreeSet<>();
        TreeSet<String> hidden = new TreeSet<>();
        for (Method m : desk.getDeclaredMethods()) {
            if (Modifier.isPrivate(m.getModifiers())) {
                hidden.add(m.getName());
            } else {
                got.add(written(m));
                Expect.same(m.getName() + " is public and no more", m.getModifiers(), Modifier.PUBLIC);
            }
        }
        TreeSet<String> due = new TreeSet<>(Arrays.asList(DUE));
        if (!got.equals(due)) {
            Expect.tell("the face is " + got + ", due is " + due);
        }
        for (String text : DUE) {
            String name = text.substring(text.indexOf(' ') + 1, text.indexOf('('));
            Expect.same("a private method named " + name, hidden.contains(name) ? 1 : 0, 0);
        }
        for (java.lang.reflect.Field f : desk.getDeclaredFields()) {
            Expect.same("field " + f.getName() + " is private", Modifier.isPrivate(f.getModifiers()) ? 1 : 0, 1);
        }
        Constructor<?>[] made = desk.getDeclaredConstructors();
        Expect.same("constructors", made.length, 1);
        Expect.same("parameters of the constructor", made[0].getParameterCount(), 0);
        Expect.same("the constructor is public", made[0].getModifiers(), Modifier.PUBLIC);
        for (Class<?> inside : desk.getDeclaredClasses()) {
            Expect.same(inside + " is static", Modifier.isStatic(inside.getModifiers()) ? 1 : 0, 1);
        }
        Expect.finish();
    }
}
