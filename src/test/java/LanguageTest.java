import java.io.IOException;
import java.lang.reflect.Field;
import java.lang.reflect.Method;
import java.lang.reflect.Modifier;
import java.nio.file.Files;
import java.nio.file.Path;
import java.util.Set;
import java.util.TreeSet;
import java.util.regex.Matcher;
import java.util.regex.Pattern;

/** The rules of LANGUAGE.md that a text search and a look at the class can tell, and the document's face. */
public final class LanguageTest {
    private static final Path SOURCE = Path.of("src/main/java/GateNames.java");
    private static final Path DOCUMENT = Path.of("../shared/DOC.md");
    private static int wrong = 0;

    private static void fault(String what) {
        wrong++;
        System.out.println(what);
    }

    public static void main(String[] args) throws IOException {
        String source = Files.readString(SOURCE);
        String code = source.replaceAll("/\\*(?s:.*?)\\*/", "").replaceAll("//[^\n]*", "");
        forbiddenWords(code);
        imports(code);
        lengths(code);
        face();
        members(GateNames.class);
        for (Class<?> inside : GateNames.class.getDeclaredClasses()) {
            members(inside);
        }
        System.out.println(wrong == 0 ? "the language is kept to" : wrong + " faults of language");
        System.exit(wrong == 0 ? 0 : 1);
    }

    private static void forbiddenWords(String code) {
        String[] forbidden = {"\\bthrows?\\b", "\\btry\\b", "\\bcatch\\b", "\\bsynchronized\\b", "\\bassert\\b",
            "->", "::", "\\bRandom\\b", "\\bThread\\b", "\\bSystem\\.(?!arraycopy)", "\\bObject\\b", "Exact\\b",
            "\\.hashCode\\(", "\\.toString\\(", "\\bprotected\\b", "\\bpackage\\b", "\\bvar\\b", "\\bdouble\\b",
            "\\bfloat\\b", "while \\(true\\)", "for \\(;;\\)"};
        for (String word : forbidden) {
            Matcher found = Pattern.compile(word).matcher(code);
            if (found.find()) {
                fault("not to be written: " + found.group());
            }
        }
        if (!code.chars().allMatch(sign -> sign == '\n' || (sign >= 32 && sign < 127))) {
            fault("a sign outside 32 .. 126");
        }
    }

    private static void imports(String code) {
        Matcher found = Pattern.compile("import ([^;]+);").matcher(code);
        while (found.find()) {
            if (!found.group(1).equals("java.util.Arrays")) {
                fault("imported: " + found.group(1));
            }
        }
    }

    private static void lengths(String code) {
        int start = -1;
        String head = "";
        String[] lines = code.split("\n", -1);
        for (int k = 0; k < lines.length; k++) {
            if (lines[k].matches(" {4,8}(private|public) [^=;]*\\) \\{")) {
                start = k;
                head = lines[k].trim();
            }
            if (start >= 0 && lines[k].matches(" {4,8}}")) {
                if (k - start > 60) {
                    fault("longer than sixty lines: " + head);
                }
                start = -1;
            }
        }
    }

    private static void face() throws IOException {
        Set<String> due = new TreeSet<>();
        Matcher said = Pattern.compile("    public (int|long) (\\w+)\\(([^)]*)\\);").matcher(Files.readString(DOCUMENT));
        while (said.find()) {
            due.add(said.group(1) + " " + said.group(2) + said.group(3).replaceAll(" \\w+(,|$)", "$1"));
        }
        Set<String> there = new TreeSet<>();
        for (Method method : GateNames.class.getDeclaredMethods()) {
            if (Modifier.isPublic(method.getModifiers())) {
                StringBuilder types = new StringBuilder();
                for (Class<?> type : method.getParameterTypes()) {
                    types.append(types.length() == 0 ? "" : ", ").append(type.getName());
                }
                there.add(method.getReturnType().getName() + " " + method.getName() + types);
            }
        }
        if (due.isEmpty() || !due.equals(there)) {
            fault("the face is " + there + ", due is " + due);
        }
        Set<String> constants = new TreeSet<>();
        for (Field field : GateNames.class.getDeclaredFields()) {
            if (Modifier.isPublic(field.getModifiers())) {
                constants.add(field.getName());
            }
        }
        if (!constants.equals(Set.of("BAD", "FULL", "FINDING", "STATE", "SPENT", "NONE"))) {
            fault("the public constants are " + constants);
        }
    }

    private static void members(Class<?> type) {
        boolean top = type == GateNames.class;
        if (!Modifier.isFinal(type.getModifiers()) || (!top && !Modifier.isStatic(type.getModifiers()))) {
            fault(type.getName() + " is not as it is to be");
        }
        Set<String> names = new TreeSet<>();
        for (Method method : GateNames.class.getDeclaredMethods()) {
            if (Modifier.isPublic(method.getModifiers())) {
                names.add(method.getName());
            }
        }
        for (Method method : type.getDeclaredMethods()) {
            boolean isPublic = top && Modifier.isPublic(method.getModifiers());
            if (!isPublic && !Modifier.isPrivate(method.getModifiers())) {
                fault(method + " is seen outside");
            }
            if (!isPublic && names.contains(method.getName())) {
                fault(method + " bears the name of a public one");
            }
            if (method.getParameterCount() > 7) {
                fault(method + " has more than seven parameters");
            }
        }
        int fields = 0;
        for (Field field : type.getDeclaredFields()) {
            boolean isStatic = Modifier.isStatic(field.getModifiers());
            fields += isStatic ? 0 : 1;
            if (isStatic && !Modifier.isFinal(field.getModifiers())) {
                fault(field + " is static and not final");
            }
            if (!isStatic && !Modifier.isPrivate(field.getModifiers())) {
                fault(field + " is seen outside");
            }
        }
        if (fields > 20) {
            fault(type.getName() + " has more than twenty fields");
        }
    }
}
