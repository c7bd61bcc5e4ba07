/** Promises 6 to 9 and 21 to 23: heir, alt, come, give, image, on and count. */
public final class StateTest {
    private static final Tally TALLY = new Tally("StateTest");
    private static final int[] ODD = {Integer.MIN_VALUE, -1, 8, 9, 100, Integer.MAX_VALUE};

    private static final String WILL = "heir ann 5 3 1; late cleo 4 0 20; heir ben 1 3 5;"
        + "day 4 thing 0, 7 comes cleo, 1 none; day 12 thing 2; day 6 comes cleo, 6 thing 2; day 12 thing 1; hold 1;";

    public static void main(String[] args) {
        heirs();
        alts();
        comesAndGifts();
        holding();
        images();
        counts();
        TALLY.finish();
    }

    private static void heirs() {
        SharesComing x = Tally.of(WILL);
        int[][] due = {{1, 5, 3, 1, 0, 0, 0, 0}, {0, 4, 0, 20, 0, 0, 0, 0}, {1, 1, 3, 5, 0, 0, 0, 0}};
        for (int heir = 0; heir < 3; heir++) {
            for (int what = 0; what < 8; what++) {
                TALLY.due("heir " + heir + " " + what, x.heir(heir, what), due[heir][what]);
            }
        }
        for (int odd : ODD) {
            TALLY.due("heir what " + odd, x.heir(0, odd), -1);
            TALLY.due("heir " + odd, x.heir(odd, 0), -1);
        }
        TALLY.due("a fourth heir", x.heir(3, 0), -1);
        TALLY.due("no second heir", Tally.of("heir a 1 2 3;").heir(1, 0), -1);
    }

    private static void alts() {
        SharesComing x = Tally.of(WILL);
        int[][][] due = {{{4, 0, 0}, {7, 1, 1}, {1, 2, -1}}, {{12, 0, 2}}, {{6, 1, 1}, {6, 0, 2}}, {{12, 0, 1}}};
        for (int day = 0; day < 4; day++) {
            for (int alt = 0; alt < 3; alt++) {
                for (int what = 0; what < 3; what++) {
                    int want = alt < due[day].length ? due[day][alt][what] : -1;
                    TALLY.due("alt " + day + " " + alt + " " + what, x.alt(day, alt, what), want);
                }
            }
        }
        TALLY.due("alt what 3", x.alt(0, 0, 3), -1);
        TALLY.due("alt of a fifth day", x.alt(4, 0, 0), -1);
        for (int odd : ODD) {
            TALLY.due("alt what " + odd, x.alt(0, 0, odd), -1);
            TALLY.due("alt " + odd, x.alt(0, odd, 0), -1);
            TALLY.due("alt day " + odd, x.alt(odd, 0, 0), -1);
        }
        x.come(2);
        TALLY.due("a day that is over is told as before", x.alt(0, 1, 0), 7);
    }

    private static void comesAndGifts() {
        SharesComing x = Tally.of(WILL);
        TALLY.due("give of nothing", x.give(0), false);
        for (int odd : ODD) {
            TALLY.due("come " + odd, x.come(odd), -1);
        }
        TALLY.due("come 3", x.come(3), -1);
        TALLY.due("come 0", x.come(0), 1);
        TALLY.due("it waits", x.count(5), 0);
        TALLY.due("the day is over", x.count(2), 1);
        TALLY.due("come while it waits", x.come(0), -1);
        for (int odd : ODD) {
            TALLY.due("give " + odd, x.give(odd), false);
        }
        TALLY.due("give to cleo too early", x.give(1), false);
        TALLY.due("give 4", x.give(4), false);
        TALLY.due("still waits", x.count(5), 0);
        TALLY.due("give to ben", x.give(2), true);
        TALLY.due("nothing waits", x.count(5), -1);
        TALLY.due("ben has it", x.heir(2, 4), 1);
        TALLY.due("by his worths", x.heir(2, 7), 1);
        TALLY.due("give once alone", x.give(2), false);
        TALLY.due("come 1 of a day with one", x.come(1), -1);
        TALLY.due("come 0", x.come(0), 2);
        TALLY.due("give to ben again", x.give(2), true);
        TALLY.due("by his worths", x.heir(2, 7), 6);
        TALLY.due("cleo comes", x.come(0), 3);
        TALLY.due("nothing waits", x.count(5), -1);
        TALLY.due("cleo came", x.heir(1, 0), 1);
        TALLY.due("all came", x.count(3), 7);
        TALLY.due("the last day", x.come(0), 4);
        TALLY.due("give to cleo", x.give(1), true);
        TALLY.due("cleo has it", x.heir(1, 5), 1);
        TALLY.due("worth nothing to her", x.heir(1, 7), 0);
        TALLY.due("no day is left", x.come(0), -1);
        comeTwice();
    }

    private static void comeTwice() {
        SharesComing x = Tally.of(WILL);
        x.come(1);
        TALLY.due("cleo came", x.count(3), 7);
        x.come(0);
        x.give(1);
        TALLY.due("cleo comes again", x.come(0), 3);
        TALLY.due("that is nothing", x.count(3), 7);
        TALLY.due("she keeps what she has", x.heir(1, 7), 20);
    }

    private static void holding() {
        SharesComing x = Tally.of(WILL);
        x.come(0);
        TALLY.due("hold one", x.give(3), true);
        TALLY.due("one is held", x.count(4), 1);
        x.come(0);
        TALLY.due("hold two", x.give(3), false);
        TALLY.due("still waits", x.count(5), 2);
        TALLY.due("give it away", x.give(0), true);
        TALLY.due("one is held still", x.count(4), 1);
        SharesComing none = Tally.of("heir a 1 1 1;day 12 thing 0;");
        none.come(0);
        TALLY.due("hold without hold", none.give(3), false);
        TALLY.due("no heir 1", none.give(1), false);
    }

    private static void images() {
        SharesComing x = Tally.of(WILL);
        for (int odd : ODD) {
            TALLY.due("image " + odd, x.image(odd), false);
            TALLY.due("on " + odd, x.on(odd), false);
        }
        TALLY.due("image 4", x.image(4), false);
        TALLY.due("on without an image", x.on(0), false);
        TALLY.due("image 0", x.image(0), true);
        x.come(0);
        TALLY.due("image 3", x.image(3), true);
        x.give(3);
        TALLY.due("image 1", x.image(1), true);
        TALLY.due("on 2", x.on(2), false);
        TALLY.due("it is held yet", x.count(4), 1);
        TALLY.due("on 3", x.on(3), true);
        TALLY.due("it waits again", x.count(5), 0);
        TALLY.due("nothing is held", x.count(4), 0);
        TALLY.due("on 0", x.on(0), true);
        TALLY.due("nothing waits", x.count(5), -1);
        TALLY.due("no day is over", x.count(2), 0);
        x.come(1);
        TALLY.due("image 3 anew", x.image(3), true);
        TALLY.due("on 1", x.on(1), true);
        TALLY.due("cleo isn't there", x.count(3), 5);
        TALLY.due("on 3, as it is now", x.on(3), true);
        TALLY.due("cleo is there", x.count(3), 7);
        TALLY.due("on 3 once more", x.on(3), true);
    }

    private static void counts() {
        SharesComing x = Tally.of(WILL);
        x.feed(0, 0, 0, 0, 0);
        x.end(17);
        x.come(0);
        x.give(3);
        x.come(0);
        int[] due = {3, 4, 2, 5, 1, 2, 1, 0, 17};
        for (int what = 0; what < due.length; what++) {
            TALLY.due("count " + what, x.count(what), due[what]);
        }
        TALLY.due("count 9", x.count(9), -1);
        TALLY.due("count -1", x.count(-1), -1);
        TALLY.due("count least", x.count(Integer.MIN_VALUE), -1);
    }
}
