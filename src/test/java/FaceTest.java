import java.io.IOException;
import java.lang.reflect.Constructor;
import java.lang.reflect.Field;
import java.lang.reflect.Method;
import java.lang.reflect.Modifier;
import java.nio.file.Files;
import java.nio.file.Path;
import java.util.Arrays;
import java.util.TreeSet;
import java.util.stream.Collectors;

/** The public face is the document's, line by line, and nothing else of the class can be seen (LANGUAGE.md, rule 1). */
public final class FaceTest {
    private static final Class<?> FACE = ResurrectingHeap.class;

    public static void main(String[] args) throws IOException, IllegalAccessException {
        Due due = new Due();
        due.promise("the public face");
        TreeSet<String> lines = documentLines();
        due.is("lines of the document's face", lines.size(), 29);
        due.same("the face", String.join("\n", faceLines()), String.join("\n", lines));
        due.is("private methods named like public ones", namesakes(), 0);
        due.same("the constants in a switch, which takes constants alone", constantNames(),
            "FULL REFUSED NOTHING NUMBER VECTOR WEAK TABLE");
        for (Class<?> inside : FACE.getDeclaredClasses()) {
            int modifiers = inside.getModifiers();
            due.yes(inside.getName() + " is static", Modifier.isStatic(modifiers));
            due.no(inside.getName() + " is public or protected",
                Modifier.isPublic(modifiers) || Modifier.isProtected(modifiers));
        }
        due.end();
    }

    /** The lines of the block, without the names of parameters, which a compiled class does not tell. */
    private static TreeSet<String> documentLines() throws IOException {
        String document = Files.readString(Path.of("../shared/DOC.md"));
        int start = document.indexOf("```java", document.indexOf("## The public face"));
        String block = document.substring(start + "```java".length(), document.indexOf("```", start + 3));
        return block.lines().map(line -> line.replaceAll("[;{}]", "").replaceAll("int \\w(\\w*)(?=[,)])", "int").trim())
            .filter(line -> !line.isEmpty()).collect(Collectors.toCollection(TreeSet::new));
    }

    /** All that is not private, in the document's form. */
    private static TreeSet<String> faceLines() throws IllegalAccessException {
        TreeSet<String> lines = new TreeSet<>();
        lines.add(Modifier.toString(FACE.getModifiers()) + " class " + FACE.getName());
        for (Field field : FACE.getDeclaredFields()) {
            if (!Modifier.isPrivate(field.getModifiers())) {
                boolean open = Modifier.isStatic(field.getModifiers()) && field.getType() == int.class;
                lines.add(Modifier.toString(field.getModifiers()) + " " + field.getType().getName() + " "
                    + field.getName() + (open ? " = " + field.getInt(null) : ""));
            }
        }
        for (Constructor<?> constructor : FACE.getDeclaredConstructors()) {
            if (!Modifier.isPrivate(constructor.getModifiers())) {
                lines.add(Modifier.toString(constructor.getModifiers()) + " " + FACE.getName()
                    + taken(constructor.getParameterTypes()));
            }
        }
        for (Method method : FACE.getDeclaredMethods()) {
            if (!Modifier.isPrivate(method.getModifiers())) {
                lines.add(Modifier.toString(method.getModifiers()) + " " + method.getReturnType().getName() + " "
                    + method.getName() + taken(method.getParameterTypes()));
            }
        }
        return lines;
    }

    private static String taken(Class<?>[] types) {
        return Arrays.stream(types).map(Class::getName).collect(Collectors.joining(", ", "(", ")"));
    }

    private static String constantNames() {
        StringBuilder names = new StringBuilder();
        for (int code = -2; code <= 4; code++) {
            String name = switch (code) {
                case ResurrectingHeap.FULL -> "FULL";
                case ResurrectingHeap.REFUSED -> "REFUSED";
                case ResurrectingHeap.NOTHING -> "NOTHING";
                case ResurrectingHeap.NUMBER -> "NUMBER";
                case ResurrectingHeap.VECTOR -> "VECTOR";
                case ResurrectingHeap.WEAK -> "WEAK";
                case ResurrectingHeap.TABLE -> "TABLE";
                default -> "none";
            };
            names.append(code == -2 ? "" : " ").append(name);
        }
        return names.toString();
    }

    private static int namesakes() {
        TreeSet<String> open = new TreeSet<>();
        for (Method method : FACE.getMethods()) {
            open.add(method.getName());
        }
        int found = 0;
        for (Method method : FACE.getDeclaredMethods()) {
            if (Modifier.isPrivate(method.getModifiers()) && open.contains(method.getName())) {
                found++;
            }
        }
        return found;
    }
}
