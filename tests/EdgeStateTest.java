/** Promises 6 to 9 and 21 to 23, and what a DAY brings: each sentence that names an edge, on both sides of it. */
public final class EdgeStateTest {
    private static final Tally TALLY = new Tally("EdgeStateTest");
    private static final int[] FAR = {Tally.LEAST, Tally.LEAST + 1, -4, -1, 9, 16, 256, Tally.MOST};

    private static final String WILL = "heir a 20 1 7;late b 0 5 2;heir c 3 0 0;"
        + "day 1 thing 2,10 comes b,1 none;day 6 thing 0,6 thing 1;day 12 thing 1;day 12 comes b;";

    public static void main(String[] args) {
        ofAnHeir();
        ofAnHeirWhoHasThings();
        ofAnAlt();
        alternativesThatAre();
        comeNamesTodaysAlt();
        comeWhileItWaits();
        comeBehindAllDays();
        comesIfHeHad();
        giveWhatWaits();
        giveToWhoCame();
        holdLessThanHoldSays();
        allSortsHeldTogether();
        images();
        imagesHoldAll();
        onWithoutAnImage();
        counts();
        TALLY.finish();
    }

    private static void ofAnHeir() {
        SharesComing x = Tally.of(WILL);
        int[][] due = {{1, 20, 1, 7, 0, 0, 0, 0}, {0, 0, 5, 2, 0, 0, 0, 0}, {1, 3, 0, 0, 0, 0, 0, 0}};
        for (int heir = 0; heir < 3; heir++) {
            for (int what = 0; what <= 7; what++) {
                TALLY.due("heir " + heir + ", " + what, x.heir(heir, what), due[heir][what]);
            }
            TALLY.due("heir " + heir + ", 8", x.heir(heir, 8), -1);
            for (int far : FAR) {
                TALLY.due("heir " + heir + ", " + far, x.heir(heir, far), -1);
            }
        }
        for (int what = 0; what <= 7; what++) {
            TALLY.due("heir 3, " + what, x.heir(3, what), -1);
            for (int far : FAR) {
                TALLY.due("heir " + far + ", " + what, x.heir(far, what), -1);
            }
        }
        for (int heirs = 1; heirs <= 3; heirs++) {
            String text = "heir a 1 1 1;late b 1 1 1;late c 1 1 1;".substring(0, 13 * heirs);
            TALLY.due("the last of " + heirs, Tally.of(text).heir(heirs - 1, 1), 1);
            TALLY.due("none behind " + heirs, Tally.of(text).heir(heirs, 1), -1);
        }
    }

    private static void ofAnHeirWhoHasThings() {
        SharesComing x = Tally.of("heir a 20 19 18;heir b 1 2 3;" + "day 4 thing 0,4 thing 1,4 thing 2;".repeat(6));
        for (int day = 0; day < 6; day++) {
            x.come(day % 3);
            x.give(0);
        }
        int[] due = {2, 2, 2, 114};
        for (int what = 4; what <= 7; what++) {
            TALLY.due("a has all six, " + what, x.heir(0, what), due[what - 4]);
            TALLY.due("b has none, " + what, x.heir(1, what), 0);
        }
        SharesComing y = Tally.of("heir a 20 0 0;" + "day 12 thing 0;".repeat(6));
        for (int day = 0; day < 6; day++) {
            y.come(0);
            TALLY.due("what waits isn't his yet", y.heir(0, 4), day);
            y.give(0);
            TALLY.due("his by now", y.heir(0, 4), day + 1);
            TALLY.due("by his worths", y.heir(0, 7), 20 * day + 20);
        }
    }

    private static void ofAnAlt() {
        SharesComing x = Tally.of(WILL);
        int[][][] due = {{{1, 0, 2}, {10, 1, 1}, {1, 2, -1}}, {{6, 0, 0}, {6, 0, 1}}, {{12, 0, 1}}, {{12, 1, 1}}};
        for (int day = 0; day < 4; day++) {
            for (int alt = 0; alt < due[day].length; alt++) {
                for (int what = 0; what < 3; what++) {
                    TALLY.due("alt " + day + ", " + alt + ", " + what, x.alt(day, alt, what), due[day][alt][what]);
                }
                TALLY.due("what 3", x.alt(day, alt, 3), -1);
                for (int far : FAR) {
                    TALLY.due("what " + far, x.alt(day, alt, far), -1);
                }
            }
            TALLY.due("alt behind the last of " + day, x.alt(day, due[day].length, 0), -1);
            for (int far : FAR) {
                TALLY.due("alt " + far + " of " + day, x.alt(day, far, 0), -1);
            }
        }
        TALLY.due("day behind the last", x.alt(4, 0, 0), -1);
        for (int far : FAR) {
            TALLY.due("day " + far, x.alt(far, 0, 0), -1);
        }
        TALLY.due("no days", Tally.of("heir a 1 1 1;").alt(0, 0, 0), -1);
        SharesComing six = Tally.of("heir a 1 1 1;" + "day 12 none;".repeat(6));
        TALLY.due("the sixth day", six.alt(5, 0, 0), 12);
        TALLY.due("no seventh", six.alt(6, 0, 0), -1);
    }

    /** A longer MATTER before this one must leave nothing behind. */
    private static void alternativesThatAre() {
        SharesComing x = Tally.of("heir a 9 9 9;heir b 9 9 9;late c 9 9 9;"
            + "day 4 thing 2,4 comes c,4 thing 2;".repeat(6));
        Tally.tell(x, "heir a 1 0 2;day 12 none;");
        x.matter();
        TALLY.due("one alt", x.alt(0, 0, 1), 2);
        TALLY.due("none of none", x.alt(0, 0, 2), -1);
        TALLY.due("no second alt", x.alt(0, 1, 0), -1);
        TALLY.due("no third alt", x.alt(0, 2, 0), -1);
        TALLY.due("no second day", x.alt(1, 0, 0), -1);
        TALLY.due("no second heir", x.heir(1, 1), -1);
        TALLY.due("no paper of him", x.paper(1, 2), -1);
        TALLY.due("no paper of things", x.paper(0, 2), 0);
        TALLY.due("no second alt comes", x.come(1), -1);
        TALLY.due("the first comes", x.come(0), 1);
        TALLY.due("no second day comes", x.come(0), -1);
        TALLY.due("its end", x.reached(0), 1000);
    }

    private static void comeNamesTodaysAlt() {
        int[] alts = {3, 2, 1, 1};
        SharesComing x = Tally.of(WILL);
        for (int day = 0; day < 4; day++) {
            TALLY.due("come " + alts[day], x.come(alts[day]), -1);
            for (int far : FAR) {
                TALLY.due("come " + far, x.come(far), -1);
            }
            TALLY.due("days over stay", x.count(2), day);
            TALLY.due("nothing waits", x.count(5), -1);
            TALLY.due("the last alt of " + day, x.come(alts[day] - 1), day + 1);
            x.give(0);
        }
    }

    private static void comeWhileItWaits() {
        SharesComing x = Tally.of(WILL);
        TALLY.due("a thing of sort 2", x.come(0), 1);
        TALLY.due("waits", x.count(5), 2);
        for (int alt = 0; alt < 3; alt++) {
            TALLY.due("come " + alt + " while it waits", x.come(alt), -1);
        }
        TALLY.due("one day is over", x.count(2), 1);
        TALLY.due("it waits still", x.count(5), 2);
        TALLY.due("given", x.give(0), true);
        TALLY.due("the next may come", x.come(1), 2);
        TALLY.due("of sort 1", x.count(5), 1);
    }

    private static void comeBehindAllDays() {
        for (int days = 0; days <= 6; days++) {
            SharesComing x = Tally.of("heir a 1 1 1;" + "day 6 none,6 none;".repeat(days));
            for (int day = 1; day <= days; day++) {
                TALLY.due("day " + day + " of " + days, x.come(day % 2), day);
            }
            TALLY.due("all " + days + " are over", x.come(0), -1);
            TALLY.due("all " + days + " are over for the second", x.come(1), -1);
            TALLY.due("days over", x.count(2), days);
        }
        SharesComing last = Tally.of("heir a 1 1 1;day 12 thing 0;");
        TALLY.due("the last day", last.come(0), 1);
        TALLY.due("its thing waits", last.count(5), 0);
        TALLY.due("none behind it", last.come(0), -1);
    }

    private static void comesIfHeHad() {
        SharesComing x = Tally.of("heir a 1 1 1;late b 2 2 2;late c 3 3 3;"
            + "day 12 comes c;day 12 thing 1;day 12 comes c;day 12 comes b;");
        TALLY.due("a alone", x.count(3), 1);
        x.come(0);
        TALLY.due("a and c", x.count(3), 5);
        TALLY.due("nothing waits of him", x.count(5), -1);
        TALLY.due("nothing is there to give", x.give(2), false);
        x.come(0);
        x.give(2);
        TALLY.due("c again", x.come(0), 3);
        TALLY.due("that is nothing", x.count(3), 5);
        TALLY.due("c keeps his thing", x.heir(2, 7), 3);
        x.come(0);
        TALLY.due("all three", x.count(3), 7);
        TALLY.due("b has none", x.heir(1, 7), 0);
    }

    private static void giveWhatWaits() {
        SharesComing x = Tally.of("heir a 1 2 3;heir b 1 2 3;day 12 none;day 12 thing 2;hold 2;");
        for (int to = 0; to <= 3; to++) {
            TALLY.due("nothing waits: give " + to, x.give(to), false);
        }
        x.come(0);
        for (int to = 0; to <= 3; to++) {
            TALLY.due("none brought nothing: give " + to, x.give(to), false);
        }
        x.come(0);
        TALLY.due("given", x.give(1), true);
        for (int to = 0; to <= 3; to++) {
            TALLY.due("it is gone: give " + to, x.give(to), false);
        }
        TALLY.due("to b", x.heir(1, 6), 1);
        TALLY.due("not to a", x.heir(0, 6), 0);
        TALLY.due("nothing is held", x.count(4), 0);
    }

    private static void giveToWhoCame() {
        for (int heirs = 1; heirs <= 3; heirs++) {
            String text = "heir a 1 1 1;heir b 1 1 1;heir c 1 1 1;".substring(0, 13 * heirs) + "day 12 thing 0;";
            for (int to = heirs; to <= 4; to++) {
                SharesComing x = Tally.of(text);
                x.come(0);
                TALLY.due("give " + to + " of " + heirs, x.give(to), false);
                for (int far : FAR) {
                    TALLY.due("give " + far, x.give(far), false);
                }
                TALLY.due("it waits still", x.count(5), 0);
                TALLY.due("the last heir of " + heirs, x.give(heirs - 1), true);
            }
        }
        SharesComing y = Tally.of("heir a 1 1 1;late b 1 1 1;day 12 thing 0;day 12 comes b;day 12 thing 0;");
        y.come(0);
        TALLY.due("b hasn't come", y.give(1), false);
        TALLY.due("a has", y.give(0), true);
        y.come(0);
        y.come(0);
        TALLY.due("b has come", y.give(1), true);
    }

    private static void holdLessThanHoldSays() {
        for (int hold = 0; hold <= 2; hold++) {
            SharesComing x = Tally.of("heir a 1 1 1;" + "day 12 thing 0;".repeat(4) + "hold " + hold + ";");
            for (int day = 0; day < 4; day++) {
                x.come(0);
                TALLY.due(day + " held, hold " + hold, x.give(3), day < hold);
                TALLY.due("held then", x.count(4), Math.min(day + 1, hold));
                TALLY.due("waits then", x.count(5), day < hold ? -1 : 0);
                x.give(0);
            }
            TALLY.due("the others are given", x.heir(0, 4), 4 - hold);
        }
    }

    private static void allSortsHeldTogether() {
        SharesComing x = Tally.of("heir a 1 1 1;day 12 thing 0;day 12 thing 1;day 12 thing 2;hold 2;");
        x.come(0);
        TALLY.due("hold sort 0", x.give(3), true);
        x.come(0);
        TALLY.due("hold sort 1", x.give(3), true);
        TALLY.due("both count", x.count(4), 2);
        x.come(0);
        TALLY.due("not sort 2, too", x.give(3), false);
        TALLY.due("a takes it", x.give(0), true);
        TALLY.due("what is held is nobody's", x.heir(0, 7), 1);
        TALLY.due("until the end", x.reached(2), 3);
    }

    private static void images() {
        SharesComing x = Tally.of(WILL);
        for (int k = 0; k < 4; k++) {
            TALLY.due("no image yet: on " + k, x.on(k), false);
        }
        for (int k = 0; k < 4; k++) {
            TALLY.due("image " + k, x.image(k), true);
            TALLY.due("no image yet: on " + (k + 1), x.on(k + 1), false);
            TALLY.due("on " + k, x.on(k), true);
        }
        TALLY.due("image 4", x.image(4), false);
        TALLY.due("on 4", x.on(4), false);
        for (int far : FAR) {
            TALLY.due("image " + far, x.image(far), false);
            TALLY.due("on " + far, x.on(far), false);
        }
        x.come(1);
        TALLY.due("image 2 in place of what was", x.image(2), true);
        TALLY.due("image 1 is as it was", x.on(1), true);
        TALLY.due("no day is over", x.count(2), 0);
        TALLY.due("image 2 is the new one", x.on(2), true);
        TALLY.due("one day is over", x.count(2), 1);
        TALLY.due("b came", x.count(3), 7);
        TALLY.due("an image may be taken up twice", x.on(2), true);
    }

    private static void imagesHoldAll() {
        SharesComing x = Tally.of("heir a 1 2 3;late b 3 2 1;"
            + "day 12 thing 1;day 12 thing 0;day 12 comes b;day 12 thing 2;hold 1;");
        x.image(0);
        x.come(0);
        x.give(3);
        x.come(0);
        x.image(1);
        x.give(0);
        x.come(0);
        x.image(2);
        x.come(0);
        x.give(1);
        x.image(3);
        int[][] due = {{0, 1, 0, -1, 0, 0}, {2, 1, 1, 0, 0, 0}, {3, 3, 1, -1, 1, 0}, {4, 3, 1, -1, 1, 1}};
        for (int k : new int[] {2, 0, 3, 1, 1, 0}) {
            TALLY.due("on " + k, x.on(k), true);
            TALLY.due("days over in " + k, x.count(2), due[k][0]);
            TALLY.due("who came in " + k, x.count(3), due[k][1]);
            TALLY.due("held in " + k, x.count(4), due[k][2]);
            TALLY.due("waits in " + k, x.count(5), due[k][3]);
            TALLY.due("a's in " + k, x.heir(0, 4), due[k][4]);
            TALLY.due("b's in " + k, x.heir(1, 6), due[k][5]);
        }
    }

    private static void onWithoutAnImage() {
        SharesComing x = Tally.of(WILL);
        x.come(0);
        x.image(1);
        x.give(2);
        TALLY.due("on 0", x.on(0), false);
        TALLY.due("on 2", x.on(2), false);
        TALLY.due("now is as it was", x.heir(2, 6), 1);
        TALLY.due("nothing waits", x.count(5), -1);
        Tally.tell(x, WILL);
        TALLY.due("image 1 while a text waits", x.on(1), true);
        TALLY.due("the text stays", x.count(8), WILL.length());
        x.matter();
        TALLY.due("a new matter has no images", x.on(1), false);
    }

    private static void counts() {
        SharesComing x = Tally.of(WILL + "hold 2;back 1;");
        Tally.tell(x, "day");
        x.come(0);
        x.give(3);
        x.come(1);
        int[] due = {3, 4, 2, 5, 1, 1, 2, 1, 3};
        for (int what = 0; what <= 8; what++) {
            TALLY.due("count " + what, x.count(what), due[what]);
        }
        for (int far : FAR) {
            TALLY.due("count " + far, x.count(far), -1);
        }
        for (int sort = 0; sort < 3; sort++) {
            SharesComing y = Tally.of("heir a 1 1 1;day 12 thing " + sort + ";");
            TALLY.due("nothing waits", y.count(5), -1);
            y.come(0);
            TALLY.due("sort " + sort + " waits", y.count(5), sort);
        }
    }
}
