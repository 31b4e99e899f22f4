import java.io.IOException;
import java.lang.reflect.Constructor;
import java.lang.reflect.Field;
import java.lang.reflect.Method;
import java.lang.reflect.Modifier;
import java.nio.file.Files;
import java.nio.file.Path;
import java.util.ArrayList;
import java.util.List;
import java.util.Set;
import java.util.TreeSet;
import java.util.regex.Matcher;
import java.util.regex.Pattern;
import java.util.stream.Stream;

/** The rules of LANGUAGE.md that a search through the source, or the compiled class, can see. */
public final class LanguageTest {
    private static final Path MAIN = Path.of("src", "main", "java");

    public static void main(String[] args) throws IOException {
        Path source = MAIN.resolve("StructureMap.java");
        if (!Files.isRegularFile(source)) {
            System.out.println(source + " is not below the folder where the tests run");
            System.exit(1);
        }
        oneFile();
        String code = withoutCommentsAndTexts(Files.readString(source));
        library(code);
        words(code);
        exceptions(code);
        classesInside();
        noPrivateNameOfThePublicOnes();
        for (Class<?> type : allClasses()) {
            fields(type);
            parameters(type);
        }
        Due.end();
    }

    private static void rule(int number, String what, boolean holds) {
        Due.same("rule " + number + ": " + what, holds ? 1 : 0, 1);
    }

    private static void oneFile() throws IOException {
        try (Stream<Path> all = Files.walk(MAIN)) {
            Due.same("files of the program", all.filter(Files::isRegularFile).count(), 1);
        }
    }

    private static String withoutCommentsAndTexts(String source) {
        return source.replaceAll("(?s)/\\*.*?\\*/", " ").replaceAll("//[^\n]*", " ")
            .replaceAll("\"(\\\\.|[^\"\\\\])*\"", "\"\"").replaceAll("'(\\\\.|[^'\\\\])'", "' '");
    }

    private static void library(String code) {
        rule(4, "no package", !Pattern.compile("(?m)^\\s*package\\b").matcher(code).find());
        Set<String> free = Set.of("java.util.Arrays", "java.util.ArrayList", "java.util.List",
            "java.util.Iterator", "java.util.NoSuchElementException");
        Matcher imports = Pattern.compile("import\\s+([^;]+);").matcher(code);
        while (imports.find()) {
            rule(4, "no import of " + imports.group(1), free.contains(imports.group(1)));
        }
        rule(4, "no Math whose name ends in Exact", !code.contains("Exact("));
        rule(4, "of System only arraycopy", !Pattern.compile("\\bSystem\\.(?!arraycopy\\b)").matcher(code).find());
        rule(4, "of Arrays only what is listed",
            !Pattern.compile("\\bArrays\\.(?!(fill|copyOf|copyOfRange)\\b)").matcher(code).find());
    }

    private static void words(String code) {
        for (String word : List.of("finally", "synchronized", "assert", "hashCode", "getMessage")) {
            rule(6, "no " + word, !Pattern.compile("\\b" + word + "\\b").matcher(code).find());
        }
        rule(2, "no lambda", !code.contains("->"));
        rule(2, "no method reference", !code.contains("::"));
        rule(5, "no static initialiser", !Pattern.compile("\\bstatic\\s*\\{").matcher(code).find());
    }

    private static void exceptions(String code) {
        String listed = "(IllegalState|IllegalArgument|IndexOutOfBounds|Arithmetic|UnsupportedOperation"
            + "|NoSuchElement|Runtime)Exception";
        Matcher throwing = Pattern.compile("\\bthrow\\b[^;]*;").matcher(code);
        while (throwing.find()) {
            rule(6, throwing.group(), throwing.group().matches("throw new " + listed + "\\((\"\")?\\);"));
        }
        Matcher catching = Pattern.compile("\\bcatch\\s*\\(([^)]*)\\)").matcher(code);
        while (catching.find()) {
            rule(6, catching.group(), catching.group(1).matches("(final )?" + listed + "( \\| " + listed + ")* \\w+"));
        }
    }

    private static List<Class<?>> allClasses() {
        List<Class<?>> all = new ArrayList<>(List.of(StructureMap.class));
        for (int n = 0; n < all.size(); n++) {
            all.addAll(List.of(all.get(n).getDeclaredClasses()));
        }
        return all;
    }

    private static void classesInside() {
        List<Class<?>> all = allClasses();
        rule(11, "at most twelve classes", all.size() <= 12);
        for (Class<?> type : all.subList(1, all.size())) {
            int modifiers = type.getModifiers();
            rule(1, type.getName() + " is static", Modifier.isStatic(modifiers));
            rule(1, type.getName() + " is not public or protected",
                !Modifier.isPublic(modifiers) && !Modifier.isProtected(modifiers));
        }
    }

    private static void noPrivateNameOfThePublicOnes() {
        Set<String> open = new TreeSet<>();
        for (Method method : StructureMap.class.getDeclaredMethods()) {
            if (Modifier.isPublic(method.getModifiers())) {
                open.add(method.getName());
            }
        }
        for (Class<?> type : allClasses()) {
            for (Method method : type.getDeclaredMethods()) {
                if (Modifier.isPrivate(method.getModifiers())) {
                    rule(1, "no second " + method.getName(), !open.contains(method.getName()));
                }
            }
        }
    }

    private static void fields(Class<?> type) {
        int own = 0;
        for (Field field : type.getDeclaredFields()) {
            if (Modifier.isStatic(field.getModifiers())) {
                rule(5, field + " is final", Modifier.isFinal(field.getModifiers()));
            } else {
                own++;
            }
        }
        rule(11, type.getName() + " has at most twenty fields", own <= 20);
    }

    private static void parameters(Class<?> type) {
        for (Method method : type.getDeclaredMethods()) {
            rule(11, method + " takes at most seven", method.getParameterCount() <= 7);
        }
        for (Constructor<?> constructor : type.getDeclaredConstructors()) {
            rule(11, constructor + " takes at most seven", constructor.getParameterCount() <= 7);
        }
    }
}
