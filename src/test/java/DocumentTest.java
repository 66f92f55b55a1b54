import java.io.IOException;
import java.nio.file.DirectoryStream;
import java.nio.file.Files;
import java.nio.file.Path;
import java.util.regex.Matcher;
import java.util.regex.Pattern;

/** Each promise, and what stands ahead of them (0), has sentences that tests of boundary cases are about. */
public final class DocumentTest {
    private static final Check check = new Check();

    public static void main(String[] args) throws IOException {
        int[] sentences = new int[Document.PROMISES + 1];
        try (DirectoryStream<Path> files = Files.newDirectoryStream(Path.of("src/test/java"), "*EdgesTest.java")) {
            for (Path file : files) {
                Matcher told = Pattern.compile("\\.sentence\\(([0-9]+), \"").matcher(Files.readString(file));
                while (told.find()) {
                    sentences[Integer.parseInt(told.group(1))]++;
                }
            }
        }
        for (int promise = 0; promise <= Document.PROMISES; promise++) {
            check.isTrue("tests are about promise " + promise, sentences[promise] > 0);
        }
        check.isTrue("the last promise is 33", Document.says(33, "count"));
        check.isTrue("there is none behind it", !Document.says(34, ""));
        check.finish();
    }
}
