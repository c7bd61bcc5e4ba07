import java.io.IOException;
import java.nio.charset.StandardCharsets;
import java.nio.file.Files;
import java.nio.file.Paths;
import java.util.regex.Matcher;
import java.util.regex.Pattern;

/** The examples of README.md answer what is said there. */
public final class ReadmeTest {
    private static final Tally TALLY = new Tally("ReadmeTest");
    private static final Pattern TOLD = Pattern.compile("tell\\(x, \"([^\"]*)\"\\);");
    private static final Pattern CALL = Pattern.compile("x\\.(\\w+)\\(([^)]*)\\); +// (-?\\d+|true|false|NONE|VOID)\\b.*");

    public static void main(String[] args) throws IOException {
        SharesComing x = new SharesComing();
        int examples = 0;
        int calls = 0;
        for (String line : Files.readAllLines(Paths.get("README.md"), StandardCharsets.US_ASCII)) {
            Matcher told = TOLD.matcher(line);
            Matcher call = CALL.matcher(line);
            if (line.equals("SharesComing x = new SharesComing();")) {
                x = new SharesComing();
            } else if (told.matches()) {
                examples++;
                Tally.tell(x, told.group(1));
            } else if (call.matches()) {
                calls++;
                String[] arguments = call.group(2).isEmpty() ? new String[0] : call.group(2).split(", ");
                TALLY.due(line, Player.answer(x, call.group(1), arguments), Player.number(call.group(3)));
            } else {
                TALLY.due("a call without an answer: " + line, line.startsWith("x."), false);
            }
        }
        TALLY.due("examples", examples, 2);
        TALLY.due("calls are found", calls > 20, true);
        TALLY.finish();
    }
}
