import java.io.IOException;
import java.lang.reflect.Constructor;
import java.lang.reflect.Field;
import java.lang.reflect.Method;
import java.lang.reflect.Modifier;
import java.nio.charset.StandardCharsets;
import java.nio.file.Files;
import java.nio.file.Path;
import java.util.ArrayList;
import java.util.List;
import java.util.Set;
import java.util.TreeSet;
import java.util.regex.Matcher;
import java.util.regex.Pattern;

/** The public face as the document tells it, and those rules of LANGUAGE.md that can be seen from outside or in the text. */
public final class FaceAndRulesTest {
    public static void main(String[] args) throws IOException {
        String document = Files.readString(Path.of("../shared/DOC.md"), StandardCharsets.UTF_8);
        String source = Files.readString(Path.of("src/main/java/ErrataPress.java"), StandardCharsets.UTF_8);
        Check.due("the face", String.join("\n", faceOfClass()), String.join("\n", faceOfDocument(document)));
        Check.due("public and final", ErrataPress.class.getModifiers(), Modifier.PUBLIC | Modifier.FINAL);
        members();
        for (Class<?> inner : ErrataPress.class.getDeclaredClasses()) {
            classInside(inner);
        }
        Check.due("at most twelve classes", ErrataPress.class.getDeclaredClasses().length < 12, true);
        words(source);
        lengths(source);
        Check.finish();
    }

    private static Set<String> faceOfDocument(String document) {
        Set<String> face = new TreeSet<>();
        Matcher matcher = Pattern.compile("(?m)^    public (\\w+ )?(\\w+)\\((.*?)\\)( throws (.*?))?;$").matcher(document);
        while (matcher.find()) {
            String kinds = matcher.group(3).replaceAll("(\\w+) \\w+", "$1").replace(" ", "");
            String result = matcher.group(1) == null ? "" : matcher.group(1);
            String thrown = matcher.group(5) == null ? "" : matcher.group(5).replace(" ", "");
            face.add(result + matcher.group(2) + "(" + kinds + ") " + thrown);
        }
        return face;
    }

    private static Set<String> faceOfClass() {
        Set<String> face = new TreeSet<>();
        for (Method method : ErrataPress.class.getDeclaredMethods()) {
            if (Modifier.isPublic(method.getModifiers())) {
                face.add(method.getReturnType().getSimpleName() + " " + method.getName() + "("
                    + names(method.getParameterTypes()) + ") " + names(method.getExceptionTypes()));
            }
        }
        for (Constructor<?> made : ErrataPress.class.getDeclaredConstructors()) {
            face.add("ErrataPress(" + names(made.getParameterTypes()) + ") " + names(made.getExceptionTypes()));
        }
        return face;
    }

    private static String names(Class<?>[] types) {
        List<String> names = new ArrayList<>();
        for (Class<?> type : types) {
            names.add(type.getSimpleName());
        }
        return String.join(",", names);
    }

    private static void members() {
        for (Field field : ErrataPress.class.getDeclaredFields()) {
            Check.due("private " + field.getName(), Modifier.isPrivate(field.getModifiers()), true);
        }
        Set<String> open = new TreeSet<>();
        for (Method method : ErrataPress.class.getDeclaredMethods()) {
            if (Modifier.isPublic(method.getModifiers())) {
                open.add(method.getName());
            }
        }
        methods(ErrataPress.class, open);
        fields(ErrataPress.class);
        for (Class<?> inner : ErrataPress.class.getDeclaredClasses()) {
            methods(inner, open);
            fields(inner);
        }
    }

    private static void methods(Class<?> type, Set<String> open) {
        for (Method method : type.getDeclaredMethods()) {
            boolean isOpen = type == ErrataPress.class && Modifier.isPublic(method.getModifiers());
            boolean isPrivate = Modifier.isPrivate(method.getModifiers());
            Check.due("at most seven parameters: " + method, method.getParameterCount() <= 7, true);
            Check.due("a name of its own: " + method, isOpen || !open.contains(method.getName()), true);
            Check.due("public or private: " + method, isOpen || isPrivate || type != ErrataPress.class, true);
        }
    }

    private static void fields(Class<?> type) {
        int count = 0;
        for (Field field : type.getDeclaredFields()) {
            boolean isStatic = Modifier.isStatic(field.getModifiers());
            Check.due("final if static: " + field, !isStatic || Modifier.isFinal(field.getModifiers()), true);
            count += isStatic ? 0 : 1;
        }
        Check.due("at most twenty fields: " + type, count <= 20, true);
    }

    private static void classInside(Class<?> inner) {
        int modifiers = inner.getModifiers();
        Check.due("static: " + inner, Modifier.isStatic(modifiers), true);
        Check.due("not public: " + inner, Modifier.isPublic(modifiers) || Modifier.isProtected(modifiers), false);
    }

    private static void words(String source) {
        for (int k = 0; k < source.length(); k++) {
            Check.due("the sign at " + k + " is plain", source.charAt(k) < 127, true);
        }
        String[] none = {"->", "::", "Exact", "finally", "synchronized", "assert ", "getMessage", "static {", "java.util.*",
            "catch (", "catch(", "System.out", "random", "Random", "currentTime", "Thread"};
        for (String word : none) {
            Check.due("'" + word + "' in the source", source.contains(word), false);
        }
        Matcher imports = Pattern.compile("(?m)^import (.*);$").matcher(source);
        while (imports.find()) {
            Check.due("an import", imports.group(1), "java.util.NoSuchElementException");
        }
    }

    /** Methods stand four or eight signs to the right, and end with a brace that stands as they do. */
    private static void lengths(String source) {
        Matcher method = Pattern.compile("(?ms)^(    |        )(public|private|static|void|int|boolean|char)[^;={}]*\\) ?[^;={}]*\\{$.*?^\\1\\}$").matcher(source);
        int count = 0;
        while (method.find()) {
            count++;
            long lines = method.group().chars().filter(sign -> sign == '\n').count() + 1;
            Check.due("at most sixty lines: " + method.group().lines().findFirst().orElse(""), lines <= 60, true);
        }
        Check.due("methods were found", count > 80, true);
    }
}
