import java.io.IOException;
import java.nio.charset.StandardCharsets;
import java.nio.file.Files;
import java.nio.file.Paths;
import java.util.Arrays;

/**
 * Runs of calls with answers that were reckoned outside of Java, by a second program that follows the
 * document with other means (sets, fractions, every row tried). The same hand wrote it, having read the
 * class: it finds slips of the reckoning, but a sentence that was misread may be misread there likewise.
 */
public final class RecordedTest {
    private static final Tally TALLY = new Tally("RecordedTest");

    public static void main(String[] args) throws IOException {
        SharesComing x = new SharesComing();
        int line = 0;
        for (String told : Files.readAllLines(Paths.get("tests/recorded.txt"), StandardCharsets.US_ASCII)) {
            line++;
            if (told.equals("new")) {
                x = new SharesComing();
            } else if (told.startsWith("text ")) {
                Tally.tell(x, unescaped(told.substring(5)));
            } else {
                String[] parts = told.split(" ");
                String[] arguments = Arrays.copyOfRange(parts, 1, parts.length - 2);
                int due = Integer.parseInt(parts[parts.length - 1]);
                TALLY.due("line " + line + ", " + told, Player.answer(x, parts[0], arguments), due);
            }
        }
        TALLY.finish();
    }

    /** A byte that can't be seen in a line is told as % and two hexadecimal digits. */
    private static String unescaped(String told) {
        StringBuilder text = new StringBuilder();
        for (int at = 0; at < told.length(); at++) {
            boolean escaped = told.charAt(at) == '%';
            text.append(escaped ? (char) Integer.parseInt(told.substring(at + 1, at + 3), 16) : told.charAt(at));
            at += escaped ? 2 : 0;
        }
        return text.toString();
    }
}
