import java.io.IOException;
import java.lang.reflect.Constructor;
import java.lang.reflect.Field;
import java.lang.reflect.Method;
import java.lang.reflect.Modifier;
import java.nio.file.Files;
import java.nio.file.Path;
import java.util.Set;
import java.util.TreeSet;
import java.util.regex.Matcher;
import java.util.regex.Pattern;

/** Rules of LANGUAGE.md that can be seen from outside or in the signs of the file. */
public final class LanguageTest {
    private static final String FACE = "again ahead allot bath brake braked changed count day debt driest end enough even fairdue fewest"
        + " forget fund house keep lasts lifts lodger look owes pairs pays peg quarter rents rests roomy row rule set shares sheet sign step"
        + " strongest thirst trod undo values ways years";

    public static void main(String[] args) throws IOException {
        face();
        names();
        source();
        Check.end();
    }

    private static void face() {
        Class<?> c = RentByTheWheel.class;
        Check.due("public and final", Modifier.isPublic(c.getModifiers()) && Modifier.isFinal(c.getModifiers()), true);
        Set<String> seen = new TreeSet<>();
        for (Method m : c.getDeclaredMethods()) {
            if (!m.isSynthetic() && !Modifier.isPrivate(m.getModifiers())) {
                Check.due(m + " is public", Modifier.isPublic(m.getModifiers()) && !Modifier.isStatic(m.getModifiers()), true);
                seen.add(m.getName());
            }
        }
        Check.same("methods", String.join(" ", seen), FACE);
        Check.due("constructors", c.getDeclaredConstructors().length, 1);
        for (Constructor<?> made : c.getDeclaredConstructors()) {
            Check.due("it takes nothing", made.getParameterCount() == 0 && Modifier.isPublic(made.getModifiers()), true);
        }
        for (Field f : c.getDeclaredFields()) {
            Check.due(f + " is private, but for NONE", Modifier.isPrivate(f.getModifiers()), !f.getName().equals("NONE"));
        }
    }

    private static void names() {
        Set<String> face = Set.of(FACE.split(" "));
        int classes = 1;
        for (Class<?> c : RentByTheWheel.class.getDeclaredClasses()) {
            classes++;
            Check.due(c + " is static", Modifier.isStatic(c.getModifiers()), true);
            int fields = 0;
            for (Field f : c.getDeclaredFields()) {
                boolean still = Modifier.isStatic(f.getModifiers());
                Check.due(f + ", if static, is final", !still || Modifier.isFinal(f.getModifiers()), true);
                fields += still ? 0 : 1;
            }
            Check.due("fields of " + c, fields <= 20, true);
            for (Method m : c.getDeclaredMethods()) {
                Check.due(m + " has a name of its own", face.contains(m.getName()), false);
                Check.due(m + " takes at most seven", m.getParameterCount() <= 7, true);
            }
        }
        Check.due("classes", classes <= 12, true);
        for (Method m : RentByTheWheel.class.getDeclaredMethods()) {
            if (Modifier.isPrivate(m.getModifiers())) {
                Check.due(m + " has a name of its own", face.contains(m.getName()), false);
            }
        }
    }

    private static void source() throws IOException {
        String file = Files.readString(Path.of("src/main/java/RentByTheWheel.java"));
        String code = file.replaceAll("(?s)/\\*.*?\\*/", "").replaceAll("//[^\n]*", "");
        String[] banned = {"->", "::", "\\btry\\b", "\\bcatch\\b", "\\bfinally\\b", "\\bsynchronized\\b", "\\bassert\\b", "Exact\\b",
            "\\bpackage\\b", "System\\.(?!arraycopy)", "\\bThread", "\\bRandom", "\\bObject\\b", "\\bnull\\b", "\\bprotected\\b",
            "static \\{", "\\bdouble\\b", "\\bfloat\\b", "toString", "hashCode", "equals"};
        for (String b : banned) {
            Check.due("there is no " + b, Pattern.compile(b).matcher(code).find(), false);
        }
        Matcher imports = Pattern.compile("import ([^;]*);").matcher(code);
        while (imports.find()) {
            Check.due("import " + imports.group(1), Set.of("java.util.Arrays", "java.util.NoSuchElementException").contains(imports.group(1)), true);
        }
        Matcher thrown = Pattern.compile("\\bthrow new (\\w+)").matcher(code);
        while (thrown.find()) {
            Check.same("what is thrown", thrown.group(1), "NoSuchElementException");
        }
        Check.due("signs 0 .. 127 alone", file.chars().allMatch(c -> c < 128), true);
        methodsAreShort(code);
    }

    private static void methodsAreShort(String code) {
        String[] lines = code.split("\n");
        for (int i = 0; i < lines.length; i++) {
            Matcher head = Pattern.compile("((?: {4}){1,2})\\w.*\\(.*\\{").matcher(lines[i]);
            if (head.matches()) {
                int end = i;
                while (end < lines.length - 1 && !lines[end].equals(head.group(1) + "}")) {
                    end++;
                }
                Check.due("lines of" + lines[i], end - i <= 60, true);
            }
        }
    }
}
