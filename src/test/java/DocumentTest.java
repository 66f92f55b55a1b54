import java.io.IOException;
import java.lang.reflect.Method;
import java.lang.reflect.Modifier;
import java.nio.file.DirectoryStream;
import java.nio.file.Files;
import java.nio.file.Path;
import java.util.Set;
import java.util.TreeSet;
import java.util.regex.Matcher;
import java.util.regex.Pattern;

/**
 * The class has the document's face, and each promise, and what stands ahead of them (0), has sentences
 * that tests of boundary cases are about.
 */
public final class DocumentTest {
    private static final Check check = new Check();

    public static void main(String[] args) throws IOException {
        face();
        promises();
        check.finish();
    }

    /** Names, types and answers of all calls, as the document writes them. */
    private static void face() {
        Set<String> told = new TreeSet<>();
        Matcher calls = Pattern.compile("public (int \\w+\\([^)]*\\));").matcher(Document.head());
        while (calls.find()) {
            told.add(calls.group(1).replaceAll("(int|long) \\w+(?=[,)])", "$1"));
        }
        Set<String> built = new TreeSet<>();
        for (Method m : ProtocolDesk.class.getDeclaredMethods()) {
            if (Modifier.isPublic(m.getModifiers())) {
                built.add(asTold(m));
            }
        }
        check.same("calls of the face", told.size(), Document.PROMISES - 1);
        check.isTrue("the document tells " + told + ", the class has " + built, told.equals(built));
    }

    private static String asTold(Method m) {
        StringBuilder text = new StringBuilder(m.getReturnType() + " " + m.getName() + "(");
        String between = "";
        for (Class<?> type : m.getParameterTypes()) {
            text.append(between).append(type);
            between = ", ";
        }
        return (Modifier.isStatic(m.getModifiers()) ? "static " : "") + text.append(")");
    }

    private static void promises() throws IOException {
        int[] sentences = new int[Document.PROMISES + 1];
        try (DirectoryStream<Path> files = Files.newDirectoryStream(Path.of("src/test/java"), "*EdgesTest.java")) {
            for (Path file : files) {
                Matcher told = Pattern.compile("\\.sentence\\(([0-9]+), \"").matcher(Files.readString(file));
                while (told.find()) {
                    sentences[Integer.parseInt(told.group(1))]++;
                }
            }
        }
        for (int promise = 0; promise <= Document.PROMISES; promise++) {
            check.isTrue("tests are about promise " + promise, sentences[promise] > 0);
        }
        check.isTrue("the last promise is 33", Document.says(33, "count"));
        check.isTrue("there is none behind it", !Document.says(34, ""));
    }
}
