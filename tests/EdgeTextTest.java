/** Promises 1 to 5 and the MATTER's text: each sentence that names an edge, on both sides of it. */
public final class EdgeTextTest {
    private static final Tally TALLY = new Tally("EdgeTextTest");
    private static final int VOID = SharesComing.VOID;
    private static final int BLANKS = 0x20202020;
    private static final String A = "heir a 1 2 3;";
    private static final String[] KEPT_WORDS = {"heir", "late", "day", "thing", "comes", "none", "hold", "back"};

    public static void main(String[] args) {
        newObjectHasNoMatter();
        feedUpTo400();
        feedPutsHighestByteFirst();
        endKeepsTheFirstBytes();
        emptyAndFullText();
        words();
        numbers();
        blanksAndOtherBytes();
        names();
        eachNameOnce();
        worths();
        atMostThreeHeirs();
        atMostSixDays();
        chances();
        chancesTogether();
        commas();
        sortsOfThings();
        whoComes();
        holdAndBack();
        anyOrder();
        firstFaultAlone();
        endsTooEarly();
        toldByHeir();
        matterIsItsFirstState();
        TALLY.finish();
    }

    private static void newObjectHasNoMatter() {
        int[] all = {Tally.LEAST, -1, 0, 1, 2, 3, 4, Tally.MOST};
        SharesComing x = new SharesComing();
        for (int a : all) {
            TALLY.due("no matter: heir " + a, x.heir(a, 0), -1);
            TALLY.due("no matter: heir 0, " + a, x.heir(0, a), -1);
            TALLY.due("no matter: alt " + a, x.alt(a, 0, 0), -1);
            TALLY.due("no matter: come " + a, x.come(a), -1);
            TALLY.due("no matter: give " + a, x.give(a), false);
            TALLY.due("no matter: reached " + a, x.reached(a), VOID);
            TALLY.due("no matter: sure " + a, x.sure(a, false), VOID);
            TALLY.due("no matter: mean " + a, x.sure(a, true), VOID);
            TALLY.due("no matter: best " + a, x.best(a, true), -1);
            TALLY.due("no matter: proof " + a, x.proof(a, 0), -1);
            TALLY.due("no matter: known " + a, x.known(a, 0), VOID);
            TALLY.due("no matter: cost " + a, x.cost(a), VOID);
            TALLY.due("no matter: fare " + a, x.fare(a, 0, false), VOID);
            TALLY.due("no matter: fare 0, " + a, x.fare(0, a, true), VOID);
            TALLY.due("no matter: mended " + a, x.mended(a, 0), -1);
            TALLY.due("no matter: mended 0, " + a, x.mended(0, a), -1);
            TALLY.due("no matter: paper " + a, x.paper(a, 0), -1);
            TALLY.due("no matter: paper 0, " + a, x.paper(0, a), -1);
            TALLY.due("no matter: judge " + a, x.judge(a, 0), 9);
            TALLY.due("no matter: judge 0, " + a, x.judge(0, a), 9);
            TALLY.due("no matter: judged " + a, x.judged(a, 0, 0), VOID);
            TALLY.due("no matter: image " + a, x.image(a), false);
            TALLY.due("no matter: on " + a, x.on(a), false);
        }
        int[] counts = {0, 0, 0, 0, 0, -1, 0, 0, 0};
        for (int what = 0; what < counts.length; what++) {
            TALLY.due("no matter: count " + what, x.count(what), counts[what]);
        }
        TALLY.due("no matter: fault of no text", x.fault(), 0);
        TALLY.due("no matter: matter of no text", x.matter(), -1);
    }

    private static void feedUpTo400() {
        SharesComing x = new SharesComing();
        for (int bytes = 20; bytes <= 400; bytes += 20) {
            TALLY.due("feed up to " + bytes, x.feed(BLANKS, BLANKS, BLANKS, BLANKS, BLANKS), bytes);
        }
        TALLY.due("feed beyond 400", x.feed(BLANKS, BLANKS, BLANKS, BLANKS, BLANKS), -1);
        TALLY.due("400 stay", x.count(8), 400);
        for (int bytes = 399; bytes > 380; bytes--) {
            x.end(bytes);
            TALLY.due("feed behind " + bytes, x.feed(0, 0, 0, 0, 0), -1);
            TALLY.due(bytes + " stay", x.count(8), bytes);
            TALLY.due("all of them blanks", x.fault(), bytes);
        }
        x.end(380);
        TALLY.due("feed behind 380", x.feed(BLANKS, BLANKS, BLANKS, BLANKS, 0x20202021), 400);
        TALLY.due("its last byte", x.fault(), 399);
        x.end(0);
        TALLY.due("feed behind 0", x.feed(0, 0, 0, 0, 0), 20);
        x.end(1);
        TALLY.due("feed behind 1", x.feed(0, 0, 0, 0, 0), 21);
    }

    /** "heir a 1 2 3;" and the blanks behind it, then one odd byte at each of the twenty places. */
    private static void feedPutsHighestByteFirst() {
        int[] sound = {0x68656972, 0x20612031, 0x20322033, 0x3b202020, BLANKS};
        SharesComing x = new SharesComing();
        x.feed(sound[0], sound[1], sound[2], sound[3], sound[4]);
        TALLY.due("as it is", x.fault(), -1);
        for (int place = 0; place < 20; place++) {
            for (int odd : new int[] {0x00, 0x7f, 0x80, 0xff}) {
                int[] five = {BLANKS, BLANKS, BLANKS, BLANKS, BLANKS};
                int shift = 24 - 8 * (place % 4);
                five[place / 4] = five[place / 4] & ~(255 << shift) | odd << shift;
                x.end(0);
                x.feed(five[0], five[1], five[2], five[3], five[4]);
                TALLY.due("byte " + odd + " at " + place, x.fault(), place);
            }
        }
        int[] numbers = {Tally.LEAST, Tally.MOST, -1, 0, 1};
        for (int number : numbers) {
            x.end(0);
            x.feed(BLANKS, BLANKS, number, BLANKS, BLANKS);
            TALLY.due("number " + number, x.fault(), 8);
        }
    }

    private static void endKeepsTheFirstBytes() {
        SharesComing x = new SharesComing();
        TALLY.due("no text: end 0", x.end(0), true);
        TALLY.due("no text: end 1", x.end(1), false);
        TALLY.due("no text: end -1", x.end(-1), false);
        Tally.tell(x, A + "hold 1;");
        TALLY.due("end beyond by one", x.end(21), false);
        TALLY.due("end most", x.end(Tally.MOST), false);
        TALLY.due("end -1", x.end(-1), false);
        TALLY.due("end least", x.end(Tally.LEAST), false);
        TALLY.due("20 stay", x.count(8), 20);
        TALLY.due("20 sound ones stay", x.fault(), -1);
        TALLY.due("end at all of them", x.end(20), true);
        TALLY.due("20 are there", x.count(8), 20);
        TALLY.due("end 19", x.end(19), true);
        TALLY.due("19 are there", x.count(8), 19);
        TALLY.due("the ; is gone", x.fault(), 19);
        TALLY.due("what is gone doesn't come back", x.end(20), false);
        x.end(13);
        TALLY.due("the first 13 alone", x.fault(), -1);
        TALLY.due("bytes come behind the 13", x.feed(0x686f6c64, 0x20323b20, BLANKS, BLANKS, BLANKS), 33);
        TALLY.due("and are sound", x.matter(), 1);
        TALLY.due("as they were fed", x.count(6), 2);
        Tally.tell(x, A);
        TALLY.due("end 0 of some", x.end(0), true);
        TALLY.due("none are there", x.count(8), 0);
        TALLY.due("the fault of none", x.fault(), 0);
    }

    private static void emptyAndFullText() {
        TALLY.faults("^", " ^", "\n^", " ".repeat(400) + "^", "\n".repeat(399) + "^x", "^" + "h".repeat(400));
        TALLY.faults("heir a 1 2 3" + " ".repeat(387) + ";", "heir a 1 2 3" + " ".repeat(388) + "^");
        TALLY.faults(" ".repeat(387) + A, A + " ".repeat(387), A + " ".repeat(386) + "^,");
        TALLY.faults("heir a 1 2 " + "0".repeat(386) + "20;", "heir a 1 2 ^" + "0".repeat(386) + "21;");
        SharesComing x = new SharesComing();
        Tally.tell(x, " ".repeat(387) + A);
        TALLY.due("matter of 400 bytes", x.matter(), 1);
        TALLY.due("the text is empty then", x.count(8), 0);
        TALLY.due("and has room again", x.feed(BLANKS, BLANKS, BLANKS, BLANKS, BLANKS), 20);
    }

    private static void words() {
        TALLY.faults("heir az 0 0 0;", "heir z 0 0 0;", "heir ^`", "heir ^{", "heir a^` 0 0 0;", "heir a^{ 0 0 0;");
        TALLY.faults("^Heir a 0 0 0;", "heir ^A 0 0 0;", "heir a^Z 0 0 0;", "^heiR a 0 0 0;");
        TALLY.faults("^heirs a 0 0 0;", "^heira 0 0 0;", "^hei r a 0 0 0;", A + "^days 12 none;", A + "day 12 ^nones;");
        TALLY.faults(A + "day 12 ^things 0;", A + "^holds 1;", A + "^backs 1;", A + "^ho ld 1;", A + "^lates b 0 0 0;");
        TALLY.faults("heir a 0 0 0;day12none;", "heir a0 0 0;day 12thing0;hold0;back0;");
    }

    private static void numbers() {
        TALLY.faults("heir a 0 9 10;", "heir a ^/ 0 0;", "heir a ^: 0 0;", "heir a 0^/ 0 0;", "heir a 0^: 0 0;");
        TALLY.faults("heir a 1 12^;", "heir a 1 2 3 ^4;", "heir a 1 2^;", "heir a 1 0 0;day 1 ^2 none;");
        TALLY.faults("heir a ^-1 0 0;", "heir a ^+1 0 0;", "heir a 1^.0 0 0;", "heir a 0 0 ^2147483648;");
        TALLY.faults("heir a 0 0 ^4294967296;", "heir a 0 0 ^18446744073709551616;", "hold ^4294967297;");
    }

    private static void blanksAndOtherBytes() {
        TALLY.faults("\n\n  heir\na \n1\n2\n \n3\n;\n \n");
        for (int sign = 0; sign < 256; sign++) {
            boolean blank = sign == 32 || sign == 10;
            TALLY.faults((blank ? "" : "^") + (char) sign + A, A + (blank ? "" : "^") + (char) sign);
        }
        TALLY.faults(A + "day 12 none ^+", A + "day 12 none ^-", A + "day 12 none ^:", A + "day 12 none ^<");
    }

    private static void names() {
        TALLY.faults("heir abcdefgh 0 0 0;", "heir ^abcdefghi 0 0 0;", "heir a 0 0 0;late abcdefgh 0 0 0;");
        TALLY.faults(A + "late ^abcdefghi 0 0 0;", "heir ^" + "a".repeat(16) + " 0 0 0;");
        TALLY.faults("heir ^1 0 0 0;", "heir ^; 0 0 0;", "heir ^, 0 0 0;", "heir^", "late^");
        for (String word : KEPT_WORDS) {
            TALLY.faults("heir ^" + word + " 0 0 0;", "late ^" + word + " 0 0 0;");
            TALLY.faults("heir " + word + "s 0 0 0;", "heir " + word.substring(1) + " 0 0 0;");
            TALLY.faults(A + "late b 0 0 0;day 12 comes ^" + word + ";");
        }
    }

    private static void eachNameOnce() {
        for (String first : new String[] {"heir", "late"}) {
            for (String second : new String[] {"heir", "late"}) {
                TALLY.faults(first + " ab 0 0 0;" + second + " ^ab 0 0 0;");
                TALLY.faults(A + first + " ab 0 0 0;" + second + " ac 0 0 0;");
                TALLY.faults(A + first + " b 0 0 0;" + second + " ^b 0 0 0;", A + first + " b 0 0 0;" + second + " ^a 0 0 0;");
            }
        }
        TALLY.faults("heir abcdefgh 0 0 0;heir abcdefgi 0 0 0;late bbcdefgh 0 0 0;");
        TALLY.faults("heir abcdefgh 0 0 0;heir ^abcdefgh 0 0 0;");
    }

    private static void worths() {
        TALLY.faults("heir a 0 0 0;", "heir a 20 20 20;", "heir a ^21 0 0;", "heir a 0 ^21 0;", "heir a 0 0 ^21;");
        TALLY.faults(A + "late b 0 0 0;", A + "late b 20 20 20;", A + "late b ^21 0 0;", A + "late b 0 ^21 0;");
        TALLY.faults(A + "late b 0 0 ^21;", "heir a ^100 0 0;", "heir a 0 ^b 0;", "heir a 0 0 ^b;", "heir a 0 ^, 0;");
        SharesComing x = Tally.of("heir a 0 20 19;late b 20 0 1;");
        int[][] due = {{0, 20, 19}, {20, 0, 1}};
        for (int heir = 0; heir < 2; heir++) {
            for (int sort = 0; sort < 3; sort++) {
                TALLY.due("worth of " + sort + " to " + heir, x.heir(heir, 1 + sort), due[heir][sort]);
            }
        }
    }

    private static void atMostThreeHeirs() {
        for (int kinds = 0; kinds < 16; kinds++) {
            StringBuilder text = new StringBuilder("hold 1;");
            for (int heir = 0; heir < 4; heir++) {
                if (heir == 3 && kinds % 8 != 7) {
                    TALLY.faults(text.toString());
                    TALLY.due("three heirs", Tally.of(text.toString()).count(0), 3);
                }
                text.append(heir == 3 ? "^" : "").append((kinds >> heir & 1) == 1 ? "late " : "heir ");
                text.append((char) ('a' + heir)).append(" 0 0 0;");
            }
            TALLY.faults(text.toString());
        }
        TALLY.faults(A + "heir b 0 0 0;heir c 0 0 0;^heir", A + "heir b 0 0 0;heir c 0 0 0;^late");
    }

    private static void atMostSixDays() {
        String day = "day 12 none;";
        for (int days = 0; days <= 6; days++) {
            TALLY.faults(A + day.repeat(days));
            TALLY.due("days", Tally.of(A + day.repeat(days)).count(1), days);
        }
        TALLY.faults(A + day.repeat(6) + "^day 12 none;", A + day.repeat(6) + "^day", day.repeat(6) + A + "^day 0;");
        TALLY.faults(A + "day 4 thing 0,4 thing 1,4 thing 2;".repeat(6), A + "day 4 none,4 none,4 none;".repeat(6) + "^day");
    }

    private static void chances() {
        TALLY.faults(A + "day ^0 none;", A + "day 1 none,11 none;", A + "day 12 none;", A + "day ^13 none;");
        TALLY.faults(A + "day 11 none,^0 none;", A + "day 11 none,1 none;", A + "day 10 none,1 none,^0 none;");
        TALLY.faults(A + "day ^none;", A + "day ^, 12 none;", A + "day ^;", A + "day ^99999999999 none;");
        TALLY.faults(A + "day 12 ^;", A + "day 12 ^, none;", A + "day 12 ^12 none;", A + "day 12 ^heir;", A + "day 12 ^a;");
    }

    private static void chancesTogether() {
        for (int first = 1; first <= 12; first++) {
            String one = A + "day " + first + " none";
            TALLY.faults(one + (first == 12 ? ";" : "^;"), one + ",^" + (13 - first) + " none;");
            for (int second = 1; first + second <= 12; second++) {
                int both = first + second;
                String two = one + "," + second + " thing 0";
                TALLY.faults(two + (both == 12 ? ";" : "^;"), two + ",^" + (13 - both) + " none;");
                for (int third = 1; both + third <= 12; third++) {
                    TALLY.faults(two + "," + third + " none" + (both + third == 12 ? ";" : "^;"));
                }
            }
        }
    }

    private static void commas() {
        TALLY.faults(A + "day 4 none,4 none,4 none;", A + "day 4 none,4 none,4 none^,");
        TALLY.faults(A + "day 4 none,4 none,3 none^,1 none;", A + "day 4 none,4 none^");
        TALLY.faults(A + "day 12 none,^1 none;", A + "day 12 none,^;", A + "day 6 none,6 none,^1 none;", A + "day 6 none,^;");
        TALLY.faults(A + "day 6 none^", A + "day 6 none,^", A + "day 6 none ^6 none;", A + "day 6 none,^, 6 none;");
        TALLY.faults(A + "day 12 none;^,", A + "day 12 none;^;", A + "^;", A + "^,", "heir a 1 2 3^,", "hold 1^,", "back 1^,");
    }

    private static void sortsOfThings() {
        TALLY.faults(A + "day 12 thing 0;", A + "day 12 thing 1;", A + "day 12 thing 2;", A + "day 12 thing ^3;");
        TALLY.faults(A + "day 12 thing ^;", A + "day 12 thing ^a;", A + "day 12 thing ^-1;", A + "day 12 thing ^20;");
        TALLY.faults(A + "day 6 none, 6 thing ^3;", A + "day 6 none, 5 none, 1 thing ^3;", A + "day 12 none ^0;");
    }

    private static void whoComes() {
        String late = A + "late b 0 0 0;late bc 0 0 0;";
        TALLY.faults(late + "day 12 comes b;", late + "day 12 comes bc;", late + "day 6 comes b,5 comes bc,1 comes b;");
        TALLY.faults(late + "day 12 comes ^a;", late + "day 12 comes ^c;", late + "day 12 comes ^bcd;", late + "day 12 comes ^;");
        TALLY.faults(late + "day 12 comes ^1;", late + "day 6 none,6 comes ^a;", late + "day 12 comes^");
        TALLY.faults(A + "day 12 comes ^b;late b 0 0 0;", "day 12 comes ^b;", A + "late b 0 0 0 ^day 12 comes b;");
        TALLY.faults("late b 0 0 0;day 12 comes ^none;", "late b 0 0 0;day 12 comes ^1;", "late b 0 0 0;day 12 comes^");
        TALLY.faults("late b 0 0 0;day 12 comes b;" + A, "late b 0 0 0;day 12 comes ^a;" + A);
        SharesComing x = Tally.of("late c 0 0 0;day 6 comes c,6 none;" + A + "late b 0 0 0;day 12 comes b;");
        TALLY.due("c is heir 0", x.alt(0, 0, 2), 0);
        TALLY.due("b is heir 2", x.alt(1, 0, 2), 2);
    }

    private static void holdAndBack() {
        for (int hold = 0; hold <= 2; hold++) {
            String told = A + "hold " + hold + ";";
            TALLY.faults(told, told + "^hold " + hold + ";", told + "back 0;^hold");
            TALLY.due("hold", Tally.of(told).count(6), hold);
        }
        for (int back = 0; back <= 1; back++) {
            String told = A + "back " + back + ";";
            TALLY.faults(told, told + "^back " + back + ";", told + "hold 0;^back");
            TALLY.due("back", Tally.of(told).count(7), back);
        }
        TALLY.faults("hold ^3", "hold ^3 hold 1;", "back ^2", "back ^2 back 1;", "hold ^hold 1;", "back ^back 1;");
        TALLY.faults(A + "hold ^3;", A + "back ^2;", A + "hold ^-1;", A + "back ^-1;", A + "hold ^;", A + "back ^;");
        TALLY.faults(A + "hold ^none;", A + "back ^a;", A + "hold 1 ^1;", A + "back 1 ^1;", A + "hold 1 ^back 1;");
        TALLY.due("hold without", Tally.of(A + "back 1;").count(6), 0);
        TALLY.due("back without", Tally.of(A + "hold 2;").count(7), 0);
    }

    private static void anyOrder() {
        TALLY.faults("back 1;day 12 none;hold 2;day 12 thing 0;heir a 0 0 0;day 12 none;late b 0 0 0;day 12 comes b;");
        SharesComing x = Tally.of("late l 1 1 1;back 1;day 12 thing 2;heir h 2 2 2;hold 2;late m 3 3 3;");
        for (int heir = 0; heir < 3; heir++) {
            TALLY.due("numbers as they come", x.heir(heir, 1), heir + 1);
            TALLY.due("came who is told by heir", x.heir(heir, 0), heir == 1 ? 1 : 0);
        }
    }

    private static void firstFaultAlone() {
        TALLY.faults("heir ^heir 99 ? ;", "heir a ^? 99;", "heir a ^99 ?;", "^? heir heir", "^what ?", A + "^? day 13");
        TALLY.faults("hold ^3;hold 3;", "^,;?", A + "day ^13 thing 3;", A + "day 12 thing ^3,1 none;?");
    }

    /** A sound text that is cut: a word that is cut can't stand there, but for a name that is told. */
    private static void endsTooEarly() {
        String[] tokens = "hold 2 ; heir ann 20 10 0 ; late cleo 1 2 3 ; day 10 thing 2 , 1 comes cleo , 1 none ; back 1 ;"
            .split(" ");
        StringBuilder text = new StringBuilder();
        boolean heir = false;
        for (int k = 0; k < tokens.length; k++) {
            boolean told = k > 0 && (tokens[k - 1].equals("heir") || tokens[k - 1].equals("late"));
            boolean word = Character.isLetter(tokens[k].charAt(0)) && !told;
            for (int cut = 1; cut < tokens[k].length(); cut++) {
                String part = tokens[k].substring(0, cut);
                TALLY.faults(text + (word ? "^" + part : part + "^"));
            }
            text.append(tokens[k]);
            heir |= tokens[k].equals(";") && text.indexOf("heir") >= 0;
            boolean whole = heir && tokens[k].equals(";");
            TALLY.faults(text + (whole ? "" : "^"), text + " \n" + (whole ? "" : "^"));
            text.append(' ');
        }
    }

    private static void toldByHeir() {
        TALLY.faults("late a 0 0 0;^", "late a 0 0 0; \n^", "hold 1;back 1;day 12 none;^", "late a 0 0 0;day 12 comes a;^");
        TALLY.faults("late a 0 0 0;late b 0 0 0;late c 0 0 0;^", "late a 0 0 0;late b 0 0 0;heir c 0 0 0;");
    }

    private static void matterIsItsFirstState() {
        SharesComing x = new SharesComing();
        String[] wills = {A, A + "late b 0 0 0;",
            "late b 0 0 0;" + A + "heir c 0 0 0;day 12 thing 0;day 12 none;hold 1;back 1;"};
        int[][] counts = {{1, 0, 0, 1, 0, -1, 0, 0, 0}, {2, 0, 0, 1, 0, -1, 0, 0, 0}, {3, 2, 0, 6, 0, -1, 1, 1, 0}};
        for (int turn = 0; turn < 6; turn++) {
            int which = turn % 3;
            Tally.tell(x, wills[which]);
            TALLY.due("heirs of " + which, x.matter(), which + 1);
            for (int what = 0; what < 9; what++) {
                TALLY.due("count " + what + " of " + which, x.count(what), counts[which][what]);
            }
            for (int heir = 0; heir <= which; heir++) {
                for (int what = 4; what <= 7; what++) {
                    TALLY.due("nothing is given yet", x.heir(heir, what), 0);
                }
            }
            for (int k = 0; k < 4; k++) {
                TALLY.due("no image " + k, x.on(k), false);
                TALLY.due("image " + k, x.image(k), true);
            }
            x.come(0);
            if (turn > 2) {
                x.give(3);
            }
            x.image(turn % 4);
        }
    }
}
