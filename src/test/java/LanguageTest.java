import java.lang.reflect.Constructor;
import java.lang.reflect.Method;
import java.lang.reflect.Modifier;
import java.nio.file.Files;
import java.nio.file.Path;
import java.util.Set;
import java.util.TreeSet;
import java.util.regex.Matcher;
import java.util.regex.Pattern;

/** The public face, and those rules of LANGUAGE.md that can be seen in the text of TinyC.java. */
final class LanguageTest {
    private static final Check check = new Check("LanguageTest");

    public static void main(String[] args) throws Exception {
        face();
        nestedClasses();
        String source = Files.readString(Path.of("src/main/java/TinyC.java"));
        words(source);
        methodsAreShort(source);
        check.end();
    }

    private static void face() {
        Set<String> due = new TreeSet<>(Set.of("int feed(int)", "int compile()", "int input(int)", "int step()",
            "int run(int)", "int interpret(int)", "void reset()", "int outSize()", "int out(int)", "int codeSize()",
            "int codeAt(int)"));
        Set<String> got = new TreeSet<>();
        for (Method m : TinyC.class.getDeclaredMethods()) {
            if (!Modifier.isPrivate(m.getModifiers()) && !m.isSynthetic()) {
                StringBuilder b = new StringBuilder(m.getReturnType() + " " + m.getName() + "(");
                for (Class<?> p : m.getParameterTypes()) {
                    b.append(p);
                }
                got.add(b.append(")").toString());
                check.due(m + " is public and not static", m.getModifiers() == Modifier.PUBLIC ? 1 : 0, 1);
            }
        }
        check.due("the face is " + got, got.equals(due) ? 1 : 0, 1);
        Constructor<?>[] makers = TinyC.class.getDeclaredConstructors();
        check.due("constructors", makers.length, 1);
        check.due("parts of the constructor", makers[0].getParameterCount(), 5);
        check.due("the class is public and final", TinyC.class.getModifiers(), Modifier.PUBLIC | Modifier.FINAL);
    }

    private static void nestedClasses() {
        Set<String> names = new TreeSet<>();
        for (Method m : TinyC.class.getDeclaredMethods()) {
            if (Modifier.isPublic(m.getModifiers())) {
                names.add(m.getName());
            }
        }
        for (Method m : TinyC.class.getDeclaredMethods()) {
            boolean isPublic = Modifier.isPublic(m.getModifiers());
            check.due(m + " has a name of the face", names.contains(m.getName()) ? 1 : 0, isPublic ? 1 : 0);
        }
        int classes = 1;
        for (Class<?> c : TinyC.class.getDeclaredClasses()) {
            classes++;
            check.due(c + " is static", Modifier.isStatic(c.getModifiers()) ? 1 : 0, 1);
            for (Method m : c.getDeclaredMethods()) {
                check.due(m + " has a name of the face", names.contains(m.getName()) ? 1 : 0, 0);
                check.due(m + " has at most seven parts", m.getParameterCount() <= 7 ? 1 : 0, 1);
            }
            int fields = 0;
            for (var f : c.getDeclaredFields()) {
                boolean isStatic = Modifier.isStatic(f.getModifiers());
                fields += isStatic ? 0 : 1;
                check.due(f + " is final if static", !isStatic || Modifier.isFinal(f.getModifiers()) ? 1 : 0, 1);
            }
            check.due(c + " has at most twenty fields", fields <= 20 ? 1 : 0, 1);
        }
        check.due("at most twelve classes", classes <= 12 ? 1 : 0, 1);
    }

    private static void words(String source) {
        String text = source.replaceAll("(?s)/\\*.*?\\*/", " ").replaceAll("//[^\n]*", " ");
        String[] ruledOut = {
            "\\bthrow\\b", "\\bthrows\\b", "\\btry\\b", "\\bcatch\\b", "\\bsynchronized\\b", "\\bassert\\b", "->", "::",
            "\\bString\\b", "\\bObject\\b", "\\bSystem\\b", "\\bInteger\\b", "\\bException\\b", "\\bprotected\\b", "@"};
        for (String w : ruledOut) {
            Matcher m = Pattern.compile(w).matcher(text);
            check.due("there is " + w, m.find() ? 1 : 0, 0);
        }
        Matcher imports = Pattern.compile("import ([^;]*);").matcher(text);
        while (imports.find()) {
            check.due("import " + imports.group(1), imports.group(1).equals("java.util.Arrays") ? 1 : 0, 1);
        }
        check.due("signs beyond 127", source.chars().anyMatch(c -> c > 127) ? 1 : 0, 0);
    }
    /** A method's last line is the first one with a bracket as far from the margin as its head. */
    private static void methodsAreShort(String source) {
        Matcher heads = Pattern.compile("(?m)^( +)(?:public|private) [^=;{]*\\([^;{]*\\) \\{$").matcher(source);
        int methods = 0;
        while (heads.find()) {
            methods++;
            int end = source.indexOf("\n" + heads.group(1) + "}\n", heads.start());
            long lines = source.substring(heads.start(), Math.max(heads.end(), end)).lines().count() + 1;
            check.due(heads.group().strip() + " has at most sixty lines", end > 0 && lines <= 60 ? 1 : 0, 1);
        }
        check.due("methods and constructors in the text", methods, madeMethods());
    }

    private static int madeMethods() {
        int count = countOf(TinyC.class);
        for (Class<?> c : TinyC.class.getDeclaredClasses()) {
            count += countOf(c);
        }
        return count;
    }

    private static int countOf(Class<?> c) {
        int count = 0;
        for (Method m : c.getDeclaredMethods()) {
            count += m.isSynthetic() ? 0 : 1;
        }
        for (Constructor<?> m : c.getDeclaredConstructors()) {
            count += m.isSynthetic() ? 0 : 1;
        }
        return count;
    }
}
