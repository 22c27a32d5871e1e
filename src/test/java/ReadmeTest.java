import java.io.IOException;
import java.nio.file.Files;
import java.nio.file.Path;
import java.util.regex.Matcher;
import java.util.regex.Pattern;

/** The example of README.md: each call answers what the comment behind it says. */
public final class ReadmeTest {
    private static final Check CHECK = new Check("ReadmeTest");
    private static final Pattern CALL = Pattern.compile("x\\.(\\w+)\\(([^)]*)\\);\\s*// (-?\\d+|true|false)");

    public static void main(String[] args) throws IOException {
        String readme = Files.readString(Path.of("README.md"));
        int begin = readme.indexOf("```java");
        int end = readme.indexOf("```", begin + 3);
        CHECK.due("README.md has an example", begin >= 0 && end > begin, true);
        Matcher call = CALL.matcher(begin >= 0 && end > begin ? readme.substring(begin, end) : "");
        SewnRoads x = new SewnRoads();
        int calls = 0;
        while (call.find()) {
            calls++;
            String written = call.group(1) + "(" + inDecimals(call.group(2)) + ")";
            CHECK.due("README.md: " + written, Script.answer(x, written), number(call.group(3)));
        }
        CHECK.due("README.md: calls of the example", calls > 10, true);
        CHECK.end();
    }

    private static String inDecimals(String arguments) {
        return Pattern.compile("0x[0-9a-f]+").matcher(arguments).replaceAll(m -> String.valueOf(Integer.decode(m.group())));
    }

    private static long number(String said) {
        return said.equals("true") ? 1 : said.equals("false") ? 0 : Long.parseLong(said);
    }
}
