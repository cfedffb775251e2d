import java.io.IOException;
import java.lang.reflect.Field;
import java.lang.reflect.Method;
import java.lang.reflect.Modifier;
import java.nio.file.Files;
import java.nio.file.Path;
import java.util.ArrayList;
import java.util.List;
import java.util.regex.Matcher;
import java.util.regex.Pattern;

/** The rules of LANGUAGE.md that can be seen in the source or by reflection; it runs in the project's folder. */
public final class LanguageTest {
    private static final Path SOURCE = Path.of("src/main/java/MillPaper.java");
    private static final Checks C = new Checks();
    private static final int LINES_OF_A_METHOD = 60;
    private static final int FIELDS_OF_A_CLASS = 20;
    private static final int PARAMETERS = 7;

    private static final String[] NOWHERE = {
        "\\bimport\\b", "\\bpackage\\b", "->", "::", "@", "\\bassert\\b", "\\bsynchronized\\b", "\\bfinally\\b",
        "\\btry\\s*\\(", "\\bvolatile\\b", "\\bnative\\b", "\\bvar\\b", "\\w+Exact\\b", "\\bstatic\\s*\\{",
        "\\bprotected\\b", "\\.getMessage\\b", "\\bequals\\b", "\\bhashCode\\b", "\\btoString\\b", "\\?\\?"
    };
    private static final String[] MACHINE_OR_ABOVE = {
        "Throwable", "Error", "Exception", "RuntimeException", "IndexOutOfBoundsException",
        "ArrayIndexOutOfBoundsException", "NullPointerException", "ArithmeticException", "ClassCastException",
        "NegativeArraySizeException", "ArrayStoreException"
    };

    private static String withoutCommentsAndTexts(String source) {
        return source.replaceAll("(?s)/\\*.*?\\*/", "").replaceAll("//[^\n]*", "").replaceAll("\"[^\"\n]*\"", "\"\"");
    }

    private static List<String> found(String pattern, String code) {
        List<String> found = new ArrayList<>();
        Matcher matcher = Pattern.compile(pattern).matcher(code);
        while (matcher.find()) {
            found.add(matcher.group(matcher.groupCount()));
        }
        return found;
    }

    private static void words(String source, String code) {
        boolean plain = true;
        for (int k = 0; k < source.length(); k++) {
            plain &= source.charAt(k) >= 1 && source.charAt(k) <= 127;
        }
        C.holds("rule 4: signs 1 to 127 alone", plain);
        for (String pattern : NOWHERE) {
            C.holds("not in the language: " + pattern + " in " + found(pattern, code), found(pattern, code).isEmpty());
        }
        List<String> library = found("\\b([A-Z]\\w*\\.[a-z]\\w*)\\s*\\(", code);
        library.removeAll(List.of("Math.min", "Math.max", "System.arraycopy"));
        C.holds("rule 4: the library: " + library, library.isEmpty());
    }

    private static void exceptions(String code) {
        for (String thrown : found("\\bthrow\\b([^;]*)", code)) {
            C.holds("rule 6: throw" + thrown, thrown.matches(" new (IllegalArgument|IllegalState|UnsupportedOperation)"
                + "Exception\\(\"\"\\)"));
        }
        for (String caught : found("\\bcatch\\s*\\(\\s*(\\w+)", code)) {
            C.holds("caught by throw alone: " + caught, !List.of(MACHINE_OR_ABOVE).contains(caught));
        }
    }

    /** A method begins at the indentation of a member and ends with a brace there. */
    private static void lengths(String source) {
        String[] lines = source.split("\n");
        int begin = -1;
        for (int k = 0; k < lines.length; k++) {
            if (lines[k].matches("( {4}| {8})[\\w].*\\).*\\{") && !lines[k].matches(" *(if|for|while|do|switch|try)\\b.*")) {
                begin = k;
            } else if (begin >= 0 && lines[k].matches(" {4}\\}| {8}\\}")
                && lines[k].indexOf('}') == lines[begin].length() - lines[begin].stripLeading().length()) {
                C.holds("rule 11: lines of" + lines[begin], k - begin + 1 <= LINES_OF_A_METHOD);
                begin = -1;
            }
        }
    }

    private static void members(Class<?> one) {
        int fields = 0;
        for (Field field : one.getDeclaredFields()) {
            if (Modifier.isStatic(field.getModifiers())) {
                C.holds("rule 5: " + field + " is final", Modifier.isFinal(field.getModifiers()));
            } else {
                fields++;
            }
        }
        C.holds("rule 11: fields of " + one, fields <= FIELDS_OF_A_CLASS);
        for (Method method : one.getDeclaredMethods()) {
            C.holds("rule 11: parameters of " + method, method.getParameterCount() <= PARAMETERS);
        }
    }

    public static void main(String[] args) throws IOException {
        String source = Files.readString(SOURCE);
        String code = withoutCommentsAndTexts(source);
        words(source, code);
        exceptions(code);
        lengths(source);
        members(MillPaper.class);
        for (Class<?> inside : MillPaper.class.getDeclaredClasses()) {
            C.holds("rules 1, 2: " + inside + " is static and not public", Modifier.isStatic(inside.getModifiers())
                && !Modifier.isPublic(inside.getModifiers()) && !Modifier.isProtected(inside.getModifiers()));
            members(inside);
        }
        C.end();
    }
}
