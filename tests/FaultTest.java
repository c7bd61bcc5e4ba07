import java.util.ArrayList;
import java.util.Arrays;
import java.util.List;
import java.util.Random;
import java.util.regex.Matcher;
import java.util.regex.Pattern;

/** Promise 4 (and 5, that a FAULT stays): told faults, and spoilt texts read a second way. */
public final class FaultTest {
    private static final Tally TALLY = new Tally("FaultTest");
    private static final String HEIR = "heir a 1 2 3;";

    public static void main(String[] args) {
        toldFaults();
        soundTexts();
        oddBytes();
        spoiltTexts();
        TALLY.finish();
    }

    /** The caret stands before the byte where the fault is. */
    private static void toldFaults() {
        String[] texts = {
            "^", "   \n ^", "^;", "^,", "^7", "^heirs a 1 2 3;", "^a", "^thing", "^comes", "^none", "^Heir a 1 2 3;",
            "heir^", "heir ^7 1 2 3;", "heir ^;", "heir ^heir 1 2 3;", "heir ^late 1 2 3;", "heir ^day 1 2 3;",
            "heir ^thing 1 2 3;", "heir ^comes 1 2 3;", "heir ^none 1 2 3;", "heir ^hold 1 2 3;", "heir ^back 1 2 3;",
            "heir ^abcdefghi 1 2 3;", "heir ^aaaabcdefgh 1 2 3;", "heir a^", "heir a 1 2 3^", "heir a 1 2 3 ^4;",
            "heir a ^21 2 3;", "heir a 1 ^b 3;", "heir a 1 2 ^;", "heir a 1 2 ^99999999999999999999;",
            "heir a 1 2 ^4294967299;", "heir a ^-1 2 3;", "heir a 1^.5 2 3;", "heir a 1 2 3 ^day 12 none;",
            "late a 1 2 3;^", "late a 1 2 3; ^", "hold 0;^", HEIR + "heir ^a 1 2 3;", HEIR + "late ^a 1 2 3;",
            "heir a 1 2 3;heir b 1 2 3;late c 1 2 3;^heir d 1 2 3;", "late a 1 2 3;late b 1 2 3;late c 1 2 3;^late",
            "late a 1 2 3;late b 1 2 3;late c 1 2 3;^", HEIR + "day^", HEIR + "day ^;", HEIR + "day ^none;",
            HEIR + "day ^0 none;", HEIR + "day ^13 none;", HEIR + "day 12 ^;", HEIR + "day 12^", HEIR + "day 12 ^12",
            HEIR + "day 12 ^what;", HEIR + "day 12 none^", HEIR + "day 11 none^;", HEIR + "day 6 none, ^7 none;",
            HEIR + "day 12 none, ^1 none;", HEIR + "day 12 none,^", HEIR + "day 4 none, ^9 none;",
            HEIR + "day 4 none, 4 none, ^5 none;", HEIR + "day 4 none, 4 none, 4 none^, 1 none;",
            HEIR + "day 4 none, 4 none, 3 none^, 1 none;", HEIR + "day 4 none, 4 none, 3 none^;",
            HEIR + "day 6 none ^6 none;", HEIR + "day 6 none, ^;", HEIR + "day 6 none, ^0 none;",
            HEIR + "day 12 thing ^3;", HEIR + "day 12 thing ^;", HEIR + "day 12 thing ^a;", HEIR + "day 12 comes ^a;",
            HEIR + "day 12 comes ^b;late b 1 1 1;", HEIR + "day 12 comes ^1;", HEIR + "day 12 comes ^none;",
            HEIR + "late b 1 1 1;day 12 comes ^bb;", HEIR + "late b 1 1 1;day 12 comes^",
            "hold ^3;", "hold ^;", "hold 1^", "hold 1 ^1;", "hold 1;^hold 1;", "hold 0;^hold 0;", "hold ^a;",
            "back ^2;", "back 1;^back 0;", "back 0;^back 0;", "back^", "back 1^,", "back 1 ^back 1;",
            HEIR + "^heirb 1 2 3;", HEIR + "^.", HEIR + "^\tday 12 none;", HEIR + "^\r\n", "heir a 1 2 ^_;",
            HEIR + day(6) + "^day 12 none;", HEIR + day(7).replaceFirst("(?s)^((?:day 12 none;){6})", "$1^"),
        };
        for (String text : texts) {
            int place = text.indexOf('^');
            check(text.substring(0, place) + text.substring(place + 1), place);
        }
    }

    private static String day(int times) {
        return "day 12 none;".repeat(times);
    }

    private static void soundTexts() {
        check(HEIR, -1);
        check("\n heir\n\na 00 020 0000000000000000000000000000007 ;\n", -1);
        check("heir abcdefgh 0 0 0;", -1);
        check("heir sort 20 20 20;heir days 0 0 0;late alt 1 1 1;", -1);
        check("day12thing0;hold0;back0;heir a1 2 3;", -1);
        check("hold 2;back 1;late b 1 1 1;day 1comes b,1none,10thing 2;heir a 1 2 3;" + day(5), -1);
        check("heir a 1 2 3" + " ".repeat(387) + ";", -1);
        check(HEIR + " ".repeat(387), -1);
        check(HEIR + " ".repeat(386) + "x", 399);
    }

    /** A byte that begins no token is the fault only if nothing ahead of it is. */
    private static void oddBytes() {
        for (int odd = 0; odd < 256; odd++) {
            char sign = (char) odd;
            boolean blank = odd == 32 || odd == 10;
            check(HEIR + sign, blank ? -1 : 13);
            check("heir heir " + sign, 5);
            check("heir a 1 " + sign + " 2 3;", blank ? -1 : odd >= '0' && odd <= '9' ? 13 : 9);
        }
    }

    private static void check(String text, int want) {
        SharesComing x = new SharesComing();
        Tally.tell(x, text);
        String call = "fault of '" + text + "'";
        TALLY.due(call, x.fault(), want);
        TALLY.due(call + " read again", second(text), want);
        TALLY.due("bytes of '" + text + "'", x.count(8), text.length());
        int heirs = x.matter();
        TALLY.due("matter of '" + text + "'", heirs == -1, want != -1);
        TALLY.due("bytes behind '" + text + "'", x.count(8), want == -1 ? 0 : text.length());
        TALLY.due("fault behind '" + text + "'", x.fault(), want == -1 ? 0 : want);
    }

    private static void spoiltTexts() {
        Random r = new Random(5);
        for (int turn = 0; turn < 20000 && TALLY.isSound(); turn++) {
            StringBuilder text = new StringBuilder(Plain.random(r, 6, 2).text());
            for (int spoil = r.nextInt(4); spoil > 0; spoil--) {
                spoil(text, r);
            }
            if (text.length() <= 400) {
                check(text.toString(), second(text.toString()));
            }
        }
    }

    private static void spoil(StringBuilder text, Random r) {
        String[] bits = {"", " ", ";", ",", "1", "0", "12", "a", "b", "ann", "none", "thing", "comes", "day", "hold 1;",
            "back 0;", "\n", "x", "3", "late q 1 2 3;", "heir z 4 5 6;", "day 12 none;", "day 6 none,6 thing 1;"};
        int at = r.nextInt(text.length() + 1);
        int to = Math.min(text.length(), at + (r.nextBoolean() ? 0 : r.nextInt(6)));
        text.replace(at, to, bits[r.nextInt(bits.length)]);
    }

    /** A reader of another make: all tokens first, then by expectation. */
    private static int second(String text) {
        return new Second(text).fault();
    }

    private static final class Second {
        private final List<String> words = new ArrayList<>();
        private final List<Integer> places = new ArrayList<>();
        private final List<String> early = new ArrayList<>();
        private final List<String> late = new ArrayList<>();
        private final List<String> toldOnce = new ArrayList<>();
        private int next;
        private int days;

        Second(String text) {
            Matcher m = Pattern.compile("[a-z]+|[0-9]+|[,;]|[^ \n]").matcher(text);
            while (m.find()) {
                words.add(m.group());
                places.add(m.start());
            }
            words.add("$over$");
            places.add(text.length());
        }

        int fault() {
            try {
                while (!peek("\\$over\\$")) {
                    part();
                }
                if (early.isEmpty()) {
                    refuse();
                }
                return -1;
            } catch (IllegalStateException found) {
                return places.get(next);
            }
        }

        private void refuse() {
            throw new IllegalStateException();
        }

        private boolean peek(String pattern) {
            return words.get(next).matches(pattern);
        }

        private String take(String pattern) {
            if (!peek(pattern)) {
                refuse();
            }
            return words.get(next++);
        }

        private int number(int least, int most) {
            if (!peek("0*[0-9]{1,4}") || Integer.parseInt(words.get(next)) < least
                || Integer.parseInt(words.get(next)) > most) {
                refuse();
            }
            return Integer.parseInt(words.get(next++));
        }

        private void part() {
            if (peek("heir|late")) {
                if (early.size() + late.size() == 3) {
                    refuse();
                }
                List<String> list = take("heir|late").equals("heir") ? early : late;
                if (!isName() || early.contains(words.get(next)) || late.contains(words.get(next))) {
                    refuse();
                }
                String name = words.get(next++);
                number(0, 20);
                number(0, 20);
                number(0, 20);
                take(";");
                list.add(name);
            } else if (peek("day")) {
                day();
            } else if (peek("hold|back") && !toldOnce.contains(words.get(next))) {
                toldOnce.add(words.get(next));
                number(0, take("hold|back").equals("hold") ? 2 : 1);
                take(";");
            } else {
                refuse();
            }
        }

        private boolean isName() {
            return peek("[a-z]{1,8}")
                && !Arrays.asList("heir late day thing comes none hold back".split(" ")).contains(words.get(next));
        }

        private void day() {
            if (days == 6) {
                refuse();
            }
            days++;
            next++;
            int together = 0;
            for (int alts = 1; ; alts++) {
                together += number(1, 12 - together);
                String kind = take("thing|comes|none");
                if (kind.equals("thing")) {
                    number(0, 2);
                } else if (kind.equals("comes")) {
                    if (!late.contains(words.get(next))) {
                        refuse();
                    }
                    next++;
                }
                if (together == 12 && peek(";")) {
                    next++;
                    return;
                }
                if (alts == 3) {
                    refuse();
                }
                take(",");
            }
        }
    }
}
