import java.io.IOException;
import java.lang.reflect.Constructor;
import java.lang.reflect.Field;
import java.lang.reflect.Method;
import java.lang.reflect.Modifier;
import java.nio.file.Files;
import java.nio.file.Path;
import java.util.ArrayList;
import java.util.Arrays;
import java.util.HashSet;
import java.util.List;
import java.util.Set;
import java.util.TreeSet;
import java.util.regex.Matcher;
import java.util.regex.Pattern;

/** The public face is the document's, and the source keeps to what can be checked of LANGUAGE.md. */
public final class FaceTest {
    public static void main(String[] args) throws IOException {
        face();
        constants();
        classesInside();
        source(Files.readString(Path.of("src/main/java/DrumRope.java")));
        Check.end();
    }

    /** The members that the document's face lists, as "int now()". */
    private static Set<String> documented() throws IOException {
        String doc = Files.readString(Path.of("../shared/DOC.md"));
        String face = doc.substring(doc.indexOf("```java"), doc.indexOf("## Terms"));
        Set<String> set = new TreeSet<>();
        Matcher m = Pattern.compile("public (int|boolean) (\\w+)\\(([^)]*)\\)( throws [\\w, ]+)?;").matcher(face);
        while (m.find()) {
            String types = m.group(3).replaceAll("(int|boolean) \\w+", "$1");
            String thrown = m.group(4) == null ? "" : m.group(4);
            set.add(m.group(1) + " " + m.group(2) + "(" + types + ")" + thrown);
        }
        return set;
    }

    private static void face() throws IOException {
        Set<String> found = new TreeSet<>();
        Set<String> names = new HashSet<>();
        List<String> hidden = new ArrayList<>();
        for (Method m : DrumRope.class.getDeclaredMethods()) {
            List<String> types = Arrays.stream(m.getParameterTypes()).map(Class::getSimpleName).toList();
            List<String> thrown = Arrays.stream(m.getExceptionTypes()).map(Class::getSimpleName).toList();
            String line = m.getReturnType() + " " + m.getName() + "(" + String.join(", ", types) + ")"
                    + (thrown.isEmpty() ? "" : " throws " + String.join(", ", thrown));
            if (Modifier.isPublic(m.getModifiers())) {
                found.add(line);
                names.add(m.getName());
            } else {
                hidden.add(m.getName());
                Check.is(Modifier.isPrivate(m.getModifiers()), true, m + " private");
            }
        }
        Check.is(found, documented(), "the face");
        Check.is(found.size(), 63, "the number of methods");
        for (String name : hidden) {
            Check.is(names.contains(name), false, name + " also a public name");
        }
        Check.is(DrumRope.class.getModifiers(), Modifier.PUBLIC | Modifier.FINAL);
        Constructor<?>[] made = DrumRope.class.getDeclaredConstructors();
        Check.is(made.length, 1);
        Check.is(Modifier.isPublic(made[0].getModifiers()) && made[0].getParameterCount() == 0, true);
    }

    private static void constants() {
        Set<String> found = new TreeSet<>();
        for (Field f : DrumRope.class.getDeclaredFields()) {
            if (!Modifier.isPrivate(f.getModifiers())) {
                found.add(f.getName());
            }
            Check.is(!Modifier.isStatic(f.getModifiers()) || Modifier.isFinal(f.getModifiers()), true, f + " final");
        }
        Check.is(found.toString(), "[FULL, NONE, NO_TIME, TOO_LARGE, WRONG_STATE]");
        Check.is(DrumRope.NONE, -1);
        Check.is(DrumRope.FULL, -2);
        Check.is(DrumRope.WRONG_STATE, -3);
        Check.is(DrumRope.TOO_LARGE, -4);
        Check.is(DrumRope.NO_TIME, -1000000);
    }

    private static void classesInside() {
        Class<?>[] classes = DrumRope.class.getDeclaredClasses();
        Check.is(classes.length <= 12, true, "few classes");
        for (Class<?> c : classes) {
            Check.is(Modifier.isStatic(c.getModifiers()), true, c + " static");
            Check.is(Modifier.isPublic(c.getModifiers()) || Modifier.isProtected(c.getModifiers()), false, c + " public");
            long fields = Arrays.stream(c.getDeclaredFields()).filter(f -> !Modifier.isStatic(f.getModifiers())).count();
            Check.is(fields <= 20, true, c + " with few fields");
            for (Field f : c.getDeclaredFields()) {
                Check.is(Modifier.isStatic(f.getModifiers()), false, f + " static");
            }
        }
    }

    private static void source(String source) {
        String code = source.replaceAll("(?s)/\\*.*?\\*/|//[^\n]*", "");
        for (String bad : new String[] {"\\bimport\\b", "\\bpackage\\b", "->", "::", "\\bcatch\\b", "\\btry\\b",
            "\\bfinally\\b", "\\bassert\\b", "\\bsynchronized\\b", "Exact\\b", "\\bSystem\\b", "\\bvar\\b",
            "\\bdouble\\b", "\\bfloat\\b"}) {
            Check.is(Pattern.compile(bad).matcher(code).find(), false, "the code has " + bad);
        }
        Matcher m = Pattern.compile("throw new (\\w+)").matcher(code);
        while (m.find()) {
            Check.is(m.group(1).matches("IndexOutOfBoundsException|IllegalArgumentException"), true, m.group());
        }
        methodsAreShort(code);
    }

    private static void methodsAreShort(String code) {
        String[] lines = code.split("\n");
        for (int i = 0; i < lines.length; i++) {
            String indent = lines[i].replaceAll("\\S.*", "");
            if (lines[i].matches(" {4,8}[\\w\\[\\] ]+\\(.*\\{") && !lines[i].contains("class ")) {
                int end = i;
                while (end < lines.length && !lines[end].equals(indent + "}")) {
                    end++;
                }
                Check.is(end - i <= 60, true, "short: " + lines[i]);
            }
        }
    }
}
