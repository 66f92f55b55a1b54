import java.lang.reflect.Constructor;
import java.lang.reflect.Field;
import java.lang.reflect.Method;
import java.lang.reflect.Modifier;
import java.nio.file.Files;
import java.nio.file.Path;
import java.util.ArrayList;
import java.util.Arrays;
import java.util.HashSet;
import java.util.List;
import java.util.Set;
import java.util.regex.Matcher;
import java.util.regex.Pattern;

/** What can be seen of ../shared/LANGUAGE.md from the source and from the class. */
public final class LanguageTest {
    private static final Path SOURCE = Path.of("src/main/java/ProtocolDesk.java");
    private static final String FACE =
        "about ahead card close count dean decides ends feed feud hand keeps lay order owes paper person "
        + "price quarrel ring rule seat sit split state table talk there visit why wipe within";
    private static final Check check = new Check();

    public static void main(String[] args) throws Exception {
        String code = withoutComments(Files.readString(SOURCE));
        words(code);
        face();
        classesInside();
        methodLengths(code);
        check.finish();
    }

    private static String withoutComments(String text) {
        return text.replaceAll("(?s)/\\*.*?\\*/", "").replaceAll("//[^\n]*", "");
    }

    private static void words(String code) {
        String[] forbidden = {
            "\\bthrow\\b", "\\bthrows\\b", "\\btry\\b", "\\bcatch\\b", "\\bsynchronized\\b", "\\bassert\\b",
            "->", "::", "\\bpackage\\b", "\\bprotected\\b", "\\bvar\\b", "\\bString\\s*\\[", "\\bstatic\\s*\\{",
            "\\bequals\\b", "\\bhashCode\\b", "\\btoString\\b", "\\bObject\\b", "\\bRandom\\b", "Exact\\b",
            "\\bwhile\\s*\\(\\s*true", "for\\s*\\(\\s*;\\s*;",
        };
        for (String word : forbidden) {
            check.isTrue("no " + word, !Pattern.compile(word).matcher(code).find());
        }
        Matcher imports = Pattern.compile("\\bimport ([^;]*);").matcher(code);
        while (imports.find()) {
            check.isTrue("import " + imports.group(1), imports.group(1).equals("java.util.Arrays"));
        }
        check.isTrue("signs 1 to 127", code.chars().allMatch(c -> c > 0 && c < 128));
    }

    private static void face() {
        Class<?> desk = ProtocolDesk.class;
        Set<String> told = new HashSet<>(Arrays.asList(FACE.split(" ")));
        Set<String> seen = new HashSet<>();
        for (Method m : desk.getDeclaredMethods()) {
            boolean isPublic = Modifier.isPublic(m.getModifiers());
            check.isTrue(m + " is public or private", isPublic || Modifier.isPrivate(m.getModifiers()));
            check.isTrue(m + " is told just if public", isPublic == told.contains(m.getName()));
            seen.add(m.getName());
        }
        check.isTrue("the whole face", seen.containsAll(told));
        Set<String> constants = new HashSet<>(Arrays.asList("NONE", "BAD", "STATE", "FULL"));
        for (Field f : desk.getDeclaredFields()) {
            boolean isPublic = Modifier.isPublic(f.getModifiers());
            check.isTrue(f + " is public or private", isPublic || Modifier.isPrivate(f.getModifiers()));
            check.isTrue(f + " is told just if public", isPublic == constants.contains(f.getName()));
        }
        Constructor<?>[] constructors = desk.getDeclaredConstructors();
        check.same("constructors", constructors.length, 1);
        check.isTrue("a public constructor", Modifier.isPublic(constructors[0].getModifiers()));
        check.isTrue("final", Modifier.isFinal(desk.getModifiers()));
    }

    private static void classesInside() {
        Set<String> told = new HashSet<>(Arrays.asList(FACE.split(" ")));
        List<Class<?>> all = new ArrayList<>(Arrays.asList(ProtocolDesk.class.getDeclaredClasses()));
        check.isTrue("at most eleven classes inside", all.size() <= 11);
        for (Class<?> inside : all) {
            check.isTrue(inside + " is static", Modifier.isStatic(inside.getModifiers()));
            for (Method m : inside.getDeclaredMethods()) {
                check.isTrue(m + " has a name of its own", !told.contains(m.getName()));
            }
        }
        all.add(ProtocolDesk.class);
        for (Class<?> c : all) {
            int fields = 0;
            for (Field f : c.getDeclaredFields()) {
                boolean isStatic = Modifier.isStatic(f.getModifiers());
                check.isTrue(f + ", if static, is final", !isStatic || Modifier.isFinal(f.getModifiers()));
                fields += isStatic ? 0 : 1;
            }
            check.isTrue(c + " has at most twenty fields", fields <= 20);
            for (Method m : c.getDeclaredMethods()) {
                check.isTrue(m + " takes at most seven", m.getParameterCount() <= 7);
            }
        }
    }

    private static void methodLengths(String code) {
        String[] lines = code.split("\n");
        int begin = -1;
        String end = "";
        for (int i = 0; i < lines.length; i++) {
            boolean opens = lines[i].matches(" {4}( {4})?[a-z].*\\) \\{");
            if (begin < 0 && opens) {
                begin = i;
                end = lines[i].replaceAll("\\S.*", "}");
            } else if (begin >= 0 && lines[i].equals(end)) {
                check.isTrue("a short method at line " + begin, i - begin <= 60);
                begin = -1;
            }
        }
    }
}
