import java.lang.reflect.Constructor;
import java.lang.reflect.Field;
import java.lang.reflect.Method;
import java.lang.reflect.Modifier;
import java.util.Arrays;
import java.util.List;
import java.util.TreeSet;

/** The public face is the document's, and nothing else of the class can be seen (LANGUAGE.md, rule 1). */
public final class FaceTest {
    private static final List<String> METHODS = List.of(
        "boolean number(int,int)", "boolean assign(int,int)", "int vector(int,int)", "int weak(int,int)",
        "int table(int)", "boolean set(int,int,int)", "boolean get(int,int,int)", "boolean put(int,int,int)",
        "boolean find(int,int,int)", "boolean register(int,int)", "int next(int)", "int collect()",
        "int kind(int)", "int value(int)", "int hash(int)", "int place(int)", "int size(int)", "int used()",
        "int waiting()", "int collections()");
    private static final List<String> CONSTANTS = List.of(
        "REFUSED=-1", "FULL=-2", "NOTHING=0", "NUMBER=1", "VECTOR=2", "WEAK=3", "TABLE=4");

    public static void main(String[] args) throws IllegalAccessException {
        Due due = new Due();
        due.promise("the public face");
        Class<?> face = ResurrectingHeap.class;
        due.is("modifiers of the class", face.getModifiers(), Modifier.PUBLIC | Modifier.FINAL);
        due.same("methods", methods(face).toString(), new TreeSet<>(METHODS).toString());
        due.same("constants", constants(face).toString(), new TreeSet<>(CONSTANTS).toString());
        due.same("constructors", constructors(face).toString(), "[public ResurrectingHeap()]");
        due.is("private methods named like public ones", namesakes(face), 0);
        for (Class<?> inside : face.getDeclaredClasses()) {
            due.yes(inside.getName() + " is static", Modifier.isStatic(inside.getModifiers()));
            due.no(inside.getName() + " is public", Modifier.isPublic(inside.getModifiers()));
        }
        due.end();
    }

    private static TreeSet<String> methods(Class<?> face) {
        TreeSet<String> found = new TreeSet<>();
        for (Method method : face.getDeclaredMethods()) {
            if (!Modifier.isPrivate(method.getModifiers())) {
                String kind = method.getModifiers() == Modifier.PUBLIC ? "" : Modifier.toString(method.getModifiers());
                String taken = Arrays.toString(method.getParameterTypes()).replace(" ", "");
                found.add(kind + method.getReturnType() + " " + method.getName()
                    + "(" + taken.substring(1, taken.length() - 1) + ")");
            }
        }
        return found;
    }

    private static TreeSet<String> constants(Class<?> face) throws IllegalAccessException {
        TreeSet<String> found = new TreeSet<>();
        for (Field field : face.getDeclaredFields()) {
            if (!Modifier.isPrivate(field.getModifiers())) {
                boolean constant = field.getType() == int.class
                    && field.getModifiers() == (Modifier.PUBLIC | Modifier.STATIC | Modifier.FINAL);
                found.add(constant ? field.getName() + "=" + field.getInt(null) : field.toString());
            }
        }
        return found;
    }

    private static TreeSet<String> constructors(Class<?> face) {
        TreeSet<String> found = new TreeSet<>();
        for (Constructor<?> constructor : face.getDeclaredConstructors()) {
            found.add(constructor.toString());
        }
        return found;
    }

    private static int namesakes(Class<?> face) {
        TreeSet<String> open = new TreeSet<>();
        for (Method method : face.getMethods()) {
            open.add(method.getName());
        }
        int found = 0;
        for (Method method : face.getDeclaredMethods()) {
            if (Modifier.isPrivate(method.getModifiers()) && open.contains(method.getName())) {
                found++;
            }
        }
        return found;
    }
}
