import java.io.IOException;
import java.lang.reflect.Field;
import java.lang.reflect.Method;
import java.lang.reflect.Modifier;
import java.nio.file.Files;
import java.nio.file.Path;
import java.util.ArrayList;
import java.util.List;
import java.util.Set;
import java.util.regex.Matcher;
import java.util.regex.Pattern;

/** What can be seen by machine of the rules of LANGUAGE.md: by the class's own text and by its parts. */
public final class LanguageTest {
    private static final Path SOURCE = Path.of("src/main/java/DesignTexts.java");
    private static final Set<String> FACE =
        Set.of("put", "read", "about", "has", "order", "write", "written", "reset", "cycle", "latches");

    /** Comments and written texts left out, as words in them break no rule. */
    private static String code() throws IOException {
        return Files.readString(SOURCE).replaceAll("(?s)/\\*.*?\\*/", "").replaceAll("//[^\n]*", "")
            .replaceAll("\"[^\"\n]*\"", "\"\"");
    }

    private static List<String> found(String pattern, String code) {
        List<String> all = new ArrayList<>();
        Matcher matcher = Pattern.compile(pattern).matcher(code);
        while (matcher.find()) {
            all.add(matcher.group());
        }
        return all;
    }

    private static void words(String code) {
        Desk.same("imports", found("(?m)^import .*$", code), List.of("import java.util.NoSuchElementException;"));
        Desk.same("package", found("(?m)^package ", code), List.of());
        Desk.same("words that the rules leave out, or that the class needs nowhere", found("\\b(try|catch|finally|synchronized|assert|native|System|Thread"
            + "|Object|equals|hashCode|toString|double|float|[a-z]+Exact)\\b|->|::", code), List.of());
        Desk.same("static blocks", found("static\\s*\\{", code), List.of());
        Desk.same("library", Set.copyOf(found("\\b(Math|Integer|Long|Arrays|String|StringBuilder|List|ArrayList)\\.\\w+", code)),
            Set.of("Math.max", "Math.min"));
        Desk.same("throws that are no 'throw new E(a written text)'", found("\\bthrow (?!new (IllegalArgumentException"
            + "|IllegalStateException|IndexOutOfBoundsException|UnsupportedOperationException|NoSuchElementException)"
            + "\\(\"\"\\);)", code), List.of());
        Desk.same("loops without a counter", found("\\b(while|do)\\b", code), List.of());
    }

    private static void lengths(String code) {
        String[] lines = code.split("\n");
        int start = 0;
        for (int k = 0; k < lines.length; k++) {
            // Methods begin and end four blanks in, or eight in a class inside.
            if (lines[k].matches("( {4}| {8})\\S.*\\) (throws .*)?\\{")) {
                start = k;
            }
            if (lines[k].matches("( {4}| {8})\\}") && k - start > 60) {
                Desk.same("lines of " + lines[start].trim(), k - start, "60 at most");
            }
        }
        Desk.same("lines", lines.length > 0, true);
    }

    private static void parts(Class<?> type, boolean inside) {
        int fields = 0;
        for (Field field : type.getDeclaredFields()) {
            boolean isStatic = Modifier.isStatic(field.getModifiers());
            fields += isStatic ? 0 : 1;
            Desk.same(field + " is a constant or no static one", !isStatic || Modifier.isFinal(field.getModifiers()), true);
        }
        Desk.same(type + " has some twenty fields", fields <= 20, true);
        for (Method method : type.getDeclaredMethods()) {
            boolean hidden = inside || Modifier.isPrivate(method.getModifiers());
            Desk.same(method + " bears no public name", hidden && FACE.contains(method.getName()), false);
            Desk.same(method + " takes seven at most", method.getParameterCount() <= 7, true);
        }
    }

    public static void main(String[] args) throws IOException {
        words(code());
        lengths(code());
        Class<?>[] inside = DesignTexts.class.getDeclaredClasses();
        Desk.same("some twelve classes", inside.length <= 11, true);
        parts(DesignTexts.class, false);
        for (Class<?> type : inside) {
            parts(type, true);
        }
        Desk.end();
    }
}
