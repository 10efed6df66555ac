import java.io.IOException;
import java.nio.file.Files;
import java.nio.file.Path;
import java.util.regex.Matcher;
import java.util.regex.Pattern;

/** The answers that README.md tells, in its order, on one object. */
public final class ReadmeTest {
    private static final Check C = new Check("ReadmeTest");
    private static final Pattern TEXT = Pattern.compile("for \\(char sign : \"([^\"]*)\"");
    private static final Pattern CALL = Pattern.compile("(?m)^x\\.(\\w+)\\(([-0-9, ]*)\\); *// (-?[0-9]+): ");

    public static void main(String[] args) throws IOException {
        String readme = Files.readString(Path.of("README.md"));
        Used x = new Used();
        Matcher text = TEXT.matcher(readme);
        C.due("the text of a train is told", text.find() ? 1 : 0, 1);
        for (char sign : text.group(1).toCharArray()) {
            x.call("feed", sign);
        }
        Matcher call = CALL.matcher(readme);
        int calls = 0;
        while (call.find()) {
            int[] with = Pattern.compile(", *").splitAsStream(call.group(2)).filter(s -> !s.isEmpty())
                .mapToInt(Integer::parseInt).toArray();
            long got = x.call(call.group(1), with);
            C.due(Used.text(call.group(1), with), got, Long.parseLong(call.group(3)));
            calls++;
        }
        long lines = readme.lines().filter(line -> line.startsWith("x.")).count();
        C.due("calls that are told with their answers", calls, lines);
        C.end();
    }
}
