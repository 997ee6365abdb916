import java.lang.reflect.Constructor;
import java.lang.reflect.Field;
import java.lang.reflect.Method;
import java.lang.reflect.Modifier;
import java.nio.file.Files;
import java.nio.file.Path;
import java.util.ArrayList;
import java.util.HashSet;
import java.util.List;
import java.util.Set;
import java.util.regex.Matcher;
import java.util.regex.Pattern;

/** The rules of LANGUAGE.md that a look at the source and at the classes can tell. */
public final class LanguageTest {
    private static int wrong = 0;

    private static void check(boolean holds, String what) {
        if (!holds) {
            wrong++;
            System.out.println("LANGUAGE.md: " + what);
        }
    }

    public static void main(String[] args) throws Exception {
        String source = Files.readString(Path.of("src/main/java/GiftTable.java"));
        String code = source.replaceAll("(?s)/\\*.*?\\*/", " ").replaceAll("//[^\n]*", " ")
            .replaceAll("\"[^\"\n]*\"", "\"\"");
        words(code);
        check(source.chars().allMatch(c -> c < 128), "signs of the source are 1 to 127");
        face(source);
        classes(code);
        methods(code);
        System.out.println(wrong == 0 ? "language: no rule broken" : "language: " + wrong + " rules broken");
        if (wrong != 0) {
            System.exit(1);
        }
    }

    private static void words(String code) {
        for (String word : new String[] {"throw", "throws", "try", "catch", "finally", "synchronized", "assert", "protected",
            "package", "System\\.out", "System\\.exit", "Exact", "hashCode", "toString", "random", "Thread", "Object"}) {
            check(!Pattern.compile("\\b" + word + "\\b|" + word + "\\(").matcher(code).find(), "no " + word);
        }
        check(!code.contains("->") && !code.contains("::"), "no lambda, no method reference");
        Matcher m = Pattern.compile("import ([^;]*);").matcher(code);
        while (m.find()) {
            check(m.group(1).equals("java.util.Arrays"), "import " + m.group(1));
        }
        check(!Pattern.compile("\\bstatic\\s*\\{").matcher(code).find(), "no static initialiser");
    }

    private static void face(String source) throws Exception {
        Class<?> c = GiftTable.class;
        check(Modifier.isPublic(c.getModifiers()) && Modifier.isFinal(c.getModifiers()), "public and final");
        Set<String> due = new HashSet<>();
        String doc = Files.readString(Path.of("../shared/DOC.md"));
        Matcher m = Pattern.compile("    public int (\\w+)\\(([^)]*)\\);").matcher(doc);
        while (m.find()) {
            due.add(m.group(1) + "/" + (m.group(2).isEmpty() ? 0 : m.group(2).split(",").length));
            check(source.contains("public int " + m.group(1) + "(" + m.group(2) + ")"), "face: " + m.group());
        }
        check(due.size() == 40, "the face has 40 methods, found " + due.size());
        Set<String> names = new HashSet<>();
        for (String d : due) {
            names.add(d.substring(0, d.indexOf('/')));
        }
        Set<String> found = new HashSet<>();
        for (Method method : c.getDeclaredMethods()) {
            if (Modifier.isPublic(method.getModifiers())) {
                found.add(method.getName() + "/" + method.getParameterCount());
            } else {
                check(Modifier.isPrivate(method.getModifiers()), "private: " + method.getName());
                check(!names.contains(method.getName()), "a public one's name: " + method.getName());
            }
        }
        check(found.equals(due), "public methods " + found);
        for (Field f : c.getDeclaredFields()) {
            check(Modifier.isPrivate(f.getModifiers()) || f.getName().equals("NONE"), "private: " + f.getName());
        }
        for (Constructor<?> k : c.getDeclaredConstructors()) {
            check(Modifier.isPublic(k.getModifiers()) && k.getParameterCount() == 0, "one constructor");
        }
        for (Class<?> inner : c.getDeclaredClasses()) {
            for (Method method : inner.getDeclaredMethods()) {
                check(!names.contains(method.getName()), "a public one's name: " + method.getName());
            }
        }
    }

    private static void classes(String code) {
        List<Class<?>> all = new ArrayList<>(List.of(GiftTable.class.getDeclaredClasses()));
        all.add(GiftTable.class);
        check(all.size() <= 12, "some twelve classes: " + all.size());
        for (Class<?> c : all) {
            check(c == GiftTable.class || Modifier.isStatic(c.getModifiers()), "static: " + c.getName());
            int fields = 0;
            for (Field f : c.getDeclaredFields()) {
                if (!Modifier.isStatic(f.getModifiers())) {
                    fields++;
                } else {
                    check(Modifier.isFinal(f.getModifiers()), "static and not final: " + f.getName());
                }
            }
            check(fields <= 20, c.getName() + " has " + fields + " fields");
            for (Method method : c.getDeclaredMethods()) {
                check(method.getParameterCount() <= 7, "seven parameters: " + method.getName());
            }
        }
    }

    private static void methods(String code) {
        String[] lines = code.split("\n", -1);
        for (int k = 0; k < lines.length; k++) {
            Matcher m = Pattern.compile("^( {4}(?: {4})?)(?! )[\\w\\[\\]<> ]*\\b(\\w+)\\([^;]*$").matcher(lines[k]);
            if (m.find() && !lines[k].contains(" class ") && !lines[k].trim().startsWith("if ")) {
                int end = k;
                while (end < lines.length && !lines[end].startsWith(m.group(1) + "}")) {
                    end++;
                }
                check(end - k <= 60, "a short method: " + m.group(2) + " has " + (end - k) + " lines");
            }
        }
    }
}
