import java.io.IOException;
import java.lang.reflect.Method;
import java.lang.reflect.Modifier;
import java.nio.charset.StandardCharsets;
import java.nio.file.DirectoryStream;
import java.nio.file.Files;
import java.nio.file.Path;
import java.util.ArrayList;
import java.util.HashMap;
import java.util.List;
import java.util.Map;
import java.util.Set;
import java.util.TreeSet;
import java.util.regex.Matcher;
import java.util.regex.Pattern;

/** The calls that README.md shows, read from it, so that it cannot tell other answers than the class. */
public final class ReadmeTest {
    private static final Path README = Path.of("README.md");
    private static final String NEW_DESK = "ProtocolDesk desk = new ProtocolDesk();";
    private static final Pattern CALL =
        Pattern.compile("(?:int (\\w+) = )?desk\\.(\\w+)\\((.*?)\\); +// (-?[0-9]+|[A-Z]+)(?:: (.*))?");
    private static final Map<String, Integer> CONSTANTS = Map.of(
        "NONE", ProtocolDesk.NONE, "BAD", ProtocolDesk.BAD, "STATE", ProtocolDesk.STATE, "FULL", ProtocolDesk.FULL);
    private static final Check check = new Check();

    private final Map<String, Integer> named = new HashMap<>();
    private final Set<String> shown = new TreeSet<>();
    private Face desk;

    public static void main(String[] args) throws IOException {
        String text = Files.readString(README);
        ReadmeTest readme = new ReadmeTest();
        for (String line : linesOfJava(text)) {
            readme.make(line);
        }
        readme.showsTheWholeFace();
        tellsTheConstants(text);
        tellsEachTest(text);
        check.finish();
    }

    private static List<String> linesOfJava(String text) {
        List<String> lines = new ArrayList<>();
        Matcher blocks = Pattern.compile("(?s)```java\n(.*?)```").matcher(text);
        while (blocks.find()) {
            lines.addAll(blocks.group(1).lines().filter(line -> !line.isBlank()).toList());
        }
        check.isTrue("README.md shows calls", !lines.isEmpty());
        return lines;
    }

    private void make(String line) {
        if (line.equals(NEW_DESK)) {
            check.isTrue("one desk is shown", desk == null);
            desk = new Face(new ProtocolDesk());
            return;
        }
        Matcher call = CALL.matcher(line);
        boolean isCall = desk != null && call.matches();
        check.isTrue("a call on the desk, with its answer: " + line, isCall);
        if (!isCall) {
            return;
        }
        long[] args = numbersOf(call.group(3));
        int got = desk.call(call.group(2), args);
        shown.add(call.group(2));
        check.same("README.md: " + line, got, dueOf(call.group(4)));
        if (call.group(1) != null) {
            check.isTrue("a new name: " + line, named.put(call.group(1), got) == null);
        }
        if (call.group(2).equals("feed")) {
            check.isTrue("the text that is fed: " + line, textOf(args).equals(call.group(5)));
        }
    }

    private long[] numbersOf(String args) {
        String[] parts = args.isEmpty() ? new String[0] : args.split(", ");
        long[] numbers = new long[parts.length];
        for (int i = 0; i < parts.length; i++) {
            Integer known = named.get(parts[i]);
            numbers[i] = known != null ? known : numberOf(parts[i]);
        }
        return numbers;
    }

    /** As javac reads it: without an L behind it a number is an int. */
    private static long numberOf(String literal) {
        return literal.endsWith("L")
            ? Long.decode(literal.substring(0, literal.length() - 1))
            : Integer.decode(literal);
    }

    private static int dueOf(String answer) {
        Integer constant = CONSTANTS.get(answer);
        return constant != null ? constant : Integer.parseInt(answer);
    }

    private static String textOf(long[] fed) {
        byte[] bytes = new byte[(int) fed[1]];
        for (int i = 0; i < bytes.length; i++) {
            bytes[i] = (byte) (fed[0] >> 8 * (bytes.length - 1 - i));
        }
        return '"' + new String(bytes, StandardCharsets.ISO_8859_1) + '"';
    }

    private void showsTheWholeFace() {
        for (Method told : ProtocolDesk.class.getDeclaredMethods()) {
            if (Modifier.isPublic(told.getModifiers())) {
                check.isTrue("README.md shows " + told.getName(), shown.contains(told.getName()));
            }
        }
    }

    private static void tellsTheConstants(String text) {
        CONSTANTS.forEach((name, number) ->
            check.isTrue("README.md tells " + name, text.contains("| `" + name + "` | " + number + " |")));
    }

    private static void tellsEachTest(String text) throws IOException {
        Set<String> told = new TreeSet<>();
        Matcher rows = Pattern.compile("(?m)^\\| `(\\w+Test)` \\|").matcher(text);
        while (rows.find()) {
            told.add(rows.group(1));
        }
        Set<String> tests = new TreeSet<>();
        try (DirectoryStream<Path> files = Files.newDirectoryStream(Path.of("src/test/java"), "*Test.java")) {
            for (Path file : files) {
                tests.add(file.getFileName().toString().replace(".java", ""));
            }
        }
        check.isTrue("README.md tells " + tests + ", and tells " + told, told.equals(tests));
    }
}
