import java.lang.reflect.Constructor;
import java.lang.reflect.Field;
import java.lang.reflect.Method;
import java.lang.reflect.Modifier;
import java.util.Arrays;
import java.util.TreeSet;

/** The public face is the document's, and nothing besides (LANGUAGE.md, rules 1 and 5). */
public final class FaceTest {
    private static final String[] METHODS = {
        "int box(int) throws IllegalArgumentException IllegalStateException",
        "void call(int,int,int) throws NoSuchElementException IllegalArgumentException IllegalStateException",
        "boolean sample(int,int) throws IllegalArgumentException IllegalStateException",
        "int hang(int) throws IllegalArgumentException IllegalStateException",
        "int next(int,int,int) throws NoSuchElementException IllegalArgumentException IndexOutOfBoundsException",
        "int mark(int,int) throws NoSuchElementException IllegalArgumentException",
        "int erase(int) throws NoSuchElementException",
        "int forward(int,int) throws NoSuchElementException IllegalStateException",
        "int duration(int) throws NoSuchElementException",
        "int play(int,int) throws NoSuchElementException IndexOutOfBoundsException",
        "int length(int,int) throws NoSuchElementException IllegalArgumentException",
        "int greeting(int,int,int) throws NoSuchElementException IllegalArgumentException IndexOutOfBoundsException",
        "int used(int) throws NoSuchElementException",
        "int quota(int) throws NoSuchElementException",
        "int pack(int) throws IllegalArgumentException",
        "int block(int) throws IndexOutOfBoundsException",
        "int step(int) throws IndexOutOfBoundsException",
        "int total(int)",
    };

    public static void main(String[] args) {
        Check check = new Check("FaceTest");
        Class<?> face = MessageBank.class;
        check.due("public and final", Modifier.PUBLIC | Modifier.FINAL, () -> face.getModifiers());
        check.due("NONE", -1, () -> MessageBank.NONE);
        check.due("methods", new TreeSet<>(Arrays.asList(METHODS)), () -> openMethods(face));
        check.due("constructors", "[public MessageBank()]", () -> Arrays.toString(face.getDeclaredConstructors()));
        check.due("fields", "[NONE]", () -> openFields(face));
        check.due("private methods with a public one's name", 0, () -> sharedNames(face));
        check.due("classes inside that are public, protected or not static", 0, () -> strangeClasses(face));
        check.end();
    }

    private static TreeSet<String> openMethods(Class<?> face) {
        TreeSet<String> found = new TreeSet<>();
        for (Method m : face.getDeclaredMethods()) {
            if (!Modifier.isPrivate(m.getModifiers())) {
                found.add(told(m));
            }
        }
        return found;
    }

    private static String told(Method m) {
        StringBuilder text = new StringBuilder();
        text.append(m.getReturnType().getSimpleName()).append(' ').append(m.getName()).append('(');
        for (int i = 0; i < m.getParameterCount(); i++) {
            text.append(i > 0 ? "," : "").append(m.getParameterTypes()[i].getSimpleName());
        }
        text.append(')').append(m.getExceptionTypes().length > 0 ? " throws" : "");
        for (Class<?> e : m.getExceptionTypes()) {
            text.append(' ').append(e.getSimpleName());
        }
        return text.toString();
    }

    private static TreeSet<String> openFields(Class<?> face) {
        TreeSet<String> found = new TreeSet<>();
        for (Field f : face.getDeclaredFields()) {
            if (!Modifier.isPrivate(f.getModifiers())) {
                found.add(f.getName());
            }
            if (Modifier.isStatic(f.getModifiers()) && !Modifier.isFinal(f.getModifiers())) {
                found.add("static and not final: " + f.getName());
            }
        }
        return found;
    }

    private static int sharedNames(Class<?> face) {
        TreeSet<String> open = new TreeSet<>();
        for (Method m : face.getMethods()) {
            open.add(m.getName());
        }
        int shared = 0;
        for (Method m : face.getDeclaredMethods()) {
            shared += Modifier.isPrivate(m.getModifiers()) && open.contains(m.getName()) ? 1 : 0;
        }
        return shared;
    }

    private static int strangeClasses(Class<?> face) {
        int strange = 0;
        for (Class<?> c : face.getDeclaredClasses()) {
            int how = c.getModifiers();
            boolean open = Modifier.isPublic(how) || Modifier.isProtected(how);
            strange += open || !Modifier.isStatic(how) ? 1 : 0;
            for (Constructor<?> made : c.getDeclaredConstructors()) {
                strange += Modifier.isPublic(made.getModifiers()) ? 1 : 0;
            }
        }
        return strange;
    }
}
