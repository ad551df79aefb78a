import java.io.IOException;
import java.lang.reflect.Constructor;
import java.lang.reflect.Field;
import java.lang.reflect.Method;
import java.lang.reflect.Modifier;
import java.nio.file.Files;
import java.nio.file.Path;
import java.util.ArrayList;
import java.util.List;
import java.util.regex.Matcher;
import java.util.regex.Pattern;
import java.util.stream.Stream;

/** The rules of LANGUAGE.md that can be told from the text or from the compiled class; FaceTest has rule 1. */
public final class LanguageTest {
    private static final Path SOURCES = Path.of("src/main/java");
    private static final int MOST_PARAMETERS = 7;
    private static final int MOST_LINES = 60;
    private static final int MOST_CLASSES = 12;
    private static final int MOST_FIELDS = 20;
    private static final Due DUE = new Due();

    public static void main(String[] args) throws IOException {
        try (Stream<Path> files = Files.walk(SOURCES)) {
            List<Path> all = files.filter(Files::isRegularFile).toList();
            DUE.same("files of the program", all.toString(), "[src/main/java/ResurrectingHeap.java]");
        }
        String code = withoutCommentsAndTexts(Files.readString(SOURCES.resolve("ResurrectingHeap.java")));
        wordsThatAreLeftOut(code);
        lengthOfMethods(code);
        List<Class<?>> classes = new ArrayList<>();
        addClasses(ResurrectingHeap.class, classes);
        DUE.promise("rule 11");
        DUE.yes("at most " + MOST_CLASSES + " classes", classes.size() <= MOST_CLASSES);
        for (Class<?> one : classes) {
            fieldsOf(one);
            parametersOf(one);
        }
        DUE.end();
    }

    private static String withoutCommentsAndTexts(String source) {
        return source.replaceAll("(?s)/\\*.*?\\*/", "").replaceAll("//[^\n]*", "").replaceAll("\"[^\"\n]*\"", "\"\"");
    }

    private static void wordsThatAreLeftOut(String code) {
        leftOut("the file", code, "\\b(package|import)\\b");
        leftOut("rule 2", code, "->|::|\\bnew \\w+\\([^;{}]*\\)\\s*\\{");
        leftOut("rule 4, and the class needs nothing that it has", code,
            "\\b(java|javax)\\.|\\b(System|Arrays|Math|Integer|Long|Object)\\b");
        leftOut("rule 5", code, "\\bstatic\\s*\\{");
        leftOut("rule 6", code,
            "\\b(throw|throws|try|catch|finally|synchronized|assert)\\b|\\b(equals|hashCode|toString)\\(");
        leftOut("annotations, which no rule names", code, "@");
    }

    private static void leftOut(String rule, String code, String pattern) {
        DUE.promise(rule);
        Matcher found = Pattern.compile(pattern).matcher(code);
        DUE.same("what is left out", found.find() ? found.group() : "", "");
    }

    /** A method begins at a line with a parameter list and an opening brace, and ends where its indent comes back. */
    private static void lengthOfMethods(String code) {
        DUE.promise("rule 11");
        String[] lines = code.split("\n");
        Pattern head = Pattern.compile("^( {4}| {8})\\w[\\w\\[\\] ]*\\([^()]*\\) \\{$");
        int methods = 0;
        for (int start = 0; start < lines.length; start++) {
            Matcher matcher = head.matcher(lines[start]);
            if (matcher.matches() && !lines[start].trim().matches("(if|for|switch) .*")) {
                int end = start;
                while (!lines[end].equals(matcher.group(1) + "}")) {
                    end++;
                }
                methods++;
                DUE.yes(lines[start].trim() + " is at most " + MOST_LINES + " lines long", end - start < MOST_LINES);
            }
        }
        DUE.yes("the methods of the face, at least, were found", methods > 20);
    }

    private static void addClasses(Class<?> one, List<Class<?>> classes) {
        classes.add(one);
        for (Class<?> inside : one.getDeclaredClasses()) {
            addClasses(inside, classes);
        }
    }

    private static void fieldsOf(Class<?> one) {
        int own = 0;
        for (Field field : one.getDeclaredFields()) {
            boolean fixed = Modifier.isStatic(field.getModifiers());
            own += fixed ? 0 : 1;
            DUE.promise(fixed ? "rule 5" : "rule 3");
            DUE.yes(field + " is of a type that the rule has", fixed ? isConstant(field) : isOwnType(field.getType()));
        }
        DUE.promise("rule 11");
        DUE.yes(one.getName() + " has at most " + MOST_FIELDS + " fields", own <= MOST_FIELDS);
    }

    private static boolean isConstant(Field field) {
        Class<?> type = field.getType();
        return Modifier.isFinal(field.getModifiers())
            && (type == int.class || type == long.class || type == boolean.class || type == char.class
                || type == String.class);
    }

    private static boolean isOwnType(Class<?> type) {
        Class<?> element = type.isArray() ? type.getComponentType() : type;
        return element.isPrimitive() || element.getNestHost() == ResurrectingHeap.class;
    }

    private static void parametersOf(Class<?> one) {
        DUE.promise("rule 11");
        for (Method method : one.getDeclaredMethods()) {
            DUE.yes(method + " takes at most " + MOST_PARAMETERS, method.getParameterCount() <= MOST_PARAMETERS);
        }
        for (Constructor<?> constructor : one.getDeclaredConstructors()) {
            DUE.yes(constructor + " takes at most " + MOST_PARAMETERS,
                constructor.getParameterCount() <= MOST_PARAMETERS);
        }
    }
}
