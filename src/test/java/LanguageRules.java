import java.io.IOException;
import java.lang.reflect.Constructor;
import java.lang.reflect.Field;
import java.lang.reflect.Method;
import java.lang.reflect.Modifier;
import java.nio.file.Files;
import java.nio.file.Path;
import java.util.Set;
import java.util.TreeSet;
import java.util.regex.Matcher;
import java.util.regex.Pattern;

/** The rules of LANGUAGE.md that can be seen from the source text and from the compiled class. */
public final class LanguageRules {
    private static final Set<String> FACE = Set.of(
            "int clause()", "boolean literal(int, int, boolean)", "boolean kernel(int, int, int)", "int run(long)",
            "boolean goOn(long)", "boolean truth(int)", "boolean block()", "boolean assume(int, boolean)",
            "void freely()", "int core(int)", "int rows()", "int row(int, int)", "int numberOf(int)", "long used()",
            "int state()", "int clauses()");

    /** Words that no line of the program needs (rules 2, 4, 6, 12 and 13). */
    private static final String[] BARRED = {
        "->", "::", "\\bthrow\\b", "\\btry\\b", "\\bcatch\\b", "\\bfinally\\b", "\\bsynchronized\\b", "\\bassert\\b",
        "\\bvar\\b", "\\bSystem\\b", "\\bRandom\\b", "\\bThread\\b", "Exact\\b", "\\bprotected\\b", "\\bpackage\\b",
        "\\bwhile\\s*\\(true\\)", "\\bdouble\\b", "\\bfloat\\b",
    };

    private static int wrong = 0;

    public static void main(String[] args) throws IOException {
        face();
        String source = Files.readString(Path.of("src/main/java/ClauseSearch.java"));
        String code = source.replaceAll("(?s)/\\*.*?\\*/", "").replaceAll("//[^\n]*", "");
        for (String word : BARRED) {
            Matcher found = Pattern.compile(word).matcher(code);
            check("no " + word, !found.find());
        }
        check("one import", code.replaceAll("(?s)[^\n]*\\bimport java.util.Arrays;", "").indexOf("import ") < 0);
        namesInside();
        longMethods(source);
        System.out.println(wrong == 0 ? "the rules are kept" : wrong + " rules are not kept");
        if (wrong != 0) {
            System.exit(1);
        }
    }

    private static void check(String rule, boolean kept) {
        if (!kept) {
            wrong++;
            System.out.println("not kept: " + rule);
        }
    }

    private static void face() {
        Set<String> open = new TreeSet<>();
        for (Method method : ClauseSearch.class.getDeclaredMethods()) {
            if (!Modifier.isPrivate(method.getModifiers())) {
                check("public: " + method, Modifier.isPublic(method.getModifiers()));
                open.add(shown(method));
            }
        }
        check("the face's methods, got " + open, open.equals(FACE));
        for (Field field : ClauseSearch.class.getDeclaredFields()) {
            check("private: " + field, Modifier.isPrivate(field.getModifiers()));
            check("static means final: " + field,
                    !Modifier.isStatic(field.getModifiers()) || Modifier.isFinal(field.getModifiers()));
        }
        Constructor<?>[] makers = ClauseSearch.class.getDeclaredConstructors();
        check("one public constructor", makers.length == 1 && Modifier.isPublic(makers[0].getModifiers()));
        check("a public final class", (ClauseSearch.class.getModifiers() & 0xffff & (Modifier.PUBLIC | Modifier.FINAL))
                == (Modifier.PUBLIC | Modifier.FINAL));
    }

    private static String shown(Method method) {
        StringBuilder text = new StringBuilder(method.getReturnType() + " " + method.getName() + "(");
        for (Class<?> type : method.getParameterTypes()) {
            text.append(text.charAt(text.length() - 1) == '(' ? "" : ", ").append(type);
        }
        return text.append(")").toString();
    }

    private static void namesInside() {
        Set<String> names = new TreeSet<>();
        for (String method : FACE) {
            names.add(method.substring(method.indexOf(' ') + 1, method.indexOf('(')));
        }
        Class<?>[] inside = ClauseSearch.class.getDeclaredClasses();
        check("at most twelve classes", inside.length < 12);
        for (Class<?> one : inside) {
            check("static: " + one, Modifier.isStatic(one.getModifiers()));
            check("at most twenty fields: " + one, one.getDeclaredFields().length <= 20);
            for (Method method : one.getDeclaredMethods()) {
                check("a name of its own: " + method, !names.contains(method.getName()));
                check("at most seven parameters: " + method, method.getParameterCount() <= 7);
            }
        }
        for (Method method : ClauseSearch.class.getDeclaredMethods()) {
            check("a name of its own: " + method,
                    Modifier.isPublic(method.getModifiers()) || !names.contains(method.getName()));
        }
    }

    /** A method begins at a line that ends with ") {" and is indented as members are, and ends with a brace there. */
    private static void longMethods(String source) {
        String[] lines = source.split("\n");
        for (int at = 0; at < lines.length; at++) {
            Matcher begin = Pattern.compile("^( {4}| {8})[A-Za-z].*\\) \\{$").matcher(lines[at]);
            if (begin.find() && !lines[at].trim().matches("(if|for|while|switch).*")) {
                int end = at;
                while (end < lines.length && !lines[end].equals(begin.group(1) + "}")) {
                    end++;
                }
                check("at most sixty lines: " + lines[at].trim(), end - at <= 60);
            }
        }
    }
}
