/** Promises 10 to 20 on wills small enough to be reckoned by hand, their edges and wrong inputs. */
public final class WorthTest {
    private static final Tally TALLY = new Tally("WorthTest");
    private static final int VOID = SharesComing.VOID;
    private static final int[] ODD = {Integer.MIN_VALUE, -1, 3, 4, 100, Integer.MAX_VALUE};

    /** What comes first should go where what comes next does not. */
    private static final String TURN = "heir a 10 5 0;heir b 10 0 5;day 12 thing 0;day 4 thing 1,8 thing 2;";

    public static void main(String[] args) {
        ends();
        shares();
        calms();
        means();
        bestGifts();
        notKnowing();
        mending();
        ways();
        papers();
        rowsOfGifts();
        waiting();
        wrongGoals();
        noDays();
        TALLY.finish();
    }

    private static void goals(SharesComing x, String when, int share, int calm, int sum) {
        TALLY.due(when + ", share", x.reached(0), share);
        TALLY.due(when + ", calm", x.reached(1), calm);
        TALLY.due(when + ", sum", x.reached(2), sum);
    }

    private static SharesComing walked(String will, int... gifts) {
        SharesComing x = Tally.of(will);
        for (int gift : gifts) {
            x.come(0);
            x.give(gift);
        }
        return x;
    }

    private static void ends() {
        String two = "heir a 10 1 0;heir b 6 4 0;day 12 thing 0;day 12 thing 1;hold 2;";
        goals(walked(two, 0, 0), "all to a", 0, -2, 11);
        goals(walked(two, 1, 0), "crossed", 181, -1, 7);
        goals(walked(two, 3, 3), "both held", 800, -1, 14);
        goals(walked(two, 0, 3), "one held", 800, -1, 14);
        goals(walked(two + "back 1;", 0, 0), "one taken back", 800, -1, 14);
        goals(walked(two + "back 1;", 1, 0), "one of the crossed taken back", 181, -1, 11);
        SharesComing x = walked(two, 0);
        TALLY.due("reached too early", x.reached(2), VOID);
        x.come(0);
        TALLY.due("reached while it waits", x.reached(2), VOID);
        x.give(3);
        TALLY.due("reached", x.reached(2), 14);
        TALLY.due("it is held still", x.count(4), 1);
        String late = "heir a 2 0 0;late b 9 0 0;late c 7 0 0;day 12 thing 0;day 12 thing 0;day 12 comes c;hold 1;";
        goals(walked(late, 3, 0, 9), "the held one to who came late", 1000, 0, 9);
        goals(walked(late + "back 1;", 3, 0, 9), "and one taken back", 1000, 0, 14);
    }

    private static void shares() {
        String three = "heir a 1 0 0;heir b 1 0 0;heir c 1 0 0;day 12 thing 0;day 12 thing 0;day 12 thing 0;day 12 thing 0;";
        goals(walked(three, 0, 1, 2, 0), "two, one, one", 750, -1, 4);
        goals(walked(three, 0, 1, 0, 0), "three, one, none", 0, -3, 4);
        goals(walked(three, 0, 0, 1, 1), "two, two, none", 0, -2, 4);
        String apart = "heir a 7 0 0;heir b 0 7 0;late c 20 20 20;day 12 thing 0;day 12 thing 1;";
        goals(walked(apart, 0, 1), "each what he likes", 2000, 0, 14);
        goals(walked(apart, 1, 0), "each what he doesn't", 0, -1, 0);
        goals(walked("heir a 0 0 0;heir b 3 0 0;day 12 thing 0;", 1), "who likes nothing", 1000, 0, 3);
        goals(walked("heir a 3 0 0;heir b 3 0 0;day 12 none;", 9), "no things", 1000, 0, 0);
    }

    private static void calms() {
        String will = "heir a 9 5 2;heir b 0 0 0;day 12 thing 2;day 12 thing 1;day 12 thing 0;day 12 thing 1;day 12 thing 2;";
        TALLY.due("none beats 23", walked(will, 1, 1, 1, 1, 1).reached(1), -5);
        TALLY.due("two beat 21 less 9, 5, 5", walked(will, 0, 1, 1, 1, 1).reached(1), -3);
        TALLY.due("five beat 18 less 9 and 5", walked(will, 1, 0, 1, 1, 1).reached(1), -2);
        TALLY.due("nine beat 14 less 5", walked(will, 1, 1, 0, 1, 1).reached(1), -1);
        TALLY.due("twelve beat eleven", walked(will, 0, 0, 1, 0, 1).reached(1), 0);
        TALLY.due("one heir alone", walked("heir a 9 5 2;day 12 thing 0;", 0).reached(1), 0);
    }

    private static void means() {
        SharesComing x = Tally.of("heir a 1 0 0;heir b 1 0 0;day 7 thing 0,5 none;");
        TALLY.due("a mean below 0 is cut toward 0", x.sure(1, true), -583);
        TALLY.due("calm that is sure", x.sure(1, false), -1);
        TALLY.due("mean share", x.sure(0, true), 416666);
        TALLY.due("mean sum", x.sure(2, true), 583);
        TALLY.due("sure sum", x.sure(2, false), 0);
        SharesComing six = Tally.of("heir a 1 0 0;" + "day 1 thing 0,11 none;".repeat(6));
        TALLY.due("six days' mean", six.sure(2, true), 500);
        SharesComing held = Tally.of("heir a 5 0 0;late b 9 0 0;day 12 thing 0;day 7 comes b,5 none;hold 1;");
        TALLY.due("held for who may come", held.sure(2, true), 7333);
        TALLY.due("sure without him", held.sure(2, false), 5);
    }

    private static void bestGifts() {
        SharesComing x = Tally.of("heir a 5 0 0;late b 9 0 0;day 12 thing 0;day 7 comes b,5 none;hold 1;");
        TALLY.due("nothing waits", x.best(2, true), -1);
        x.come(0);
        TALLY.due("the mean wants it held", x.best(2, true), 3);
        TALLY.due("like ones: the least", x.best(2, false), 0);
        TALLY.due("while it waits, sure", x.sure(2, false), 5);
        TALLY.due("while it waits, mean", x.sure(2, true), 7333);
        TALLY.due("it waits still", x.count(5), 0);
        SharesComing y = Tally.of("heir a 5 1 0;heir b 5 2 0;day 12 thing 0;day 12 thing 1;");
        y.come(0);
        TALLY.due("like for sum", y.best(2, false), 0);
        y.give(0);
        y.come(0);
        TALLY.due("b likes it more", y.best(2, false), 1);
        TALLY.due("b likes it more in the mean", y.best(2, true), 1);
        TALLY.due("share wants b to have some", y.best(0, false), 1);
    }

    private static void notKnowing() {
        SharesComing x = Tally.of(TURN);
        TALLY.due("sure share", x.sure(0, false), 0);
        TALLY.due("known: thing 1", x.known(0, 0), 666);
        TALLY.due("known: thing 2", x.known(0, 4), 666);
        TALLY.due("cost of not knowing", x.cost(0), 666);
        TALLY.due("cost by sum", x.cost(2), 0);
        int[] rows = {-1, 1, 2, 3, 8, 12, 16, 20, 1 << 30, Integer.MIN_VALUE, Integer.MAX_VALUE};
        for (int row : rows) {
            TALLY.due("known of row " + row, x.known(0, row), VOID);
        }
        TALLY.due("proof 0", x.proof(0, 0), 0);
        TALLY.due("proof 1", x.proof(0, 1), 0);
        TALLY.due("proof 2", x.proof(0, 2), -1);
        TALLY.due("proof -1", x.proof(0, -1), -1);
        x.come(0);
        x.give(1);
        TALLY.due("proof when b has it: thing 2 is worse", x.proof(0, 0), 10);
        TALLY.due("no day behind", x.proof(0, 1), -1);
        TALLY.due("known: thing 1", x.known(0, 0), 666);
        TALLY.due("known: thing 2", x.known(0, 1), 0);
        TALLY.due("no cost then", x.cost(0), 0);
        SharesComing y = Tally.of(TURN + "hold 1;");
        TALLY.due("held until it is known", y.sure(0, false), 666);
        TALLY.due("no cost with hold", y.cost(0), 0);
        TALLY.due("proof: held", y.proof(0, 0), 3);
        TALLY.due("proof: the least alt, to a", y.proof(0, 1), 0);
        SharesComing z = Tally.of("heir a 1 1 1;late b 2 2 2;day 12 none;day 6 none,6 comes b;day 12 thing 1;");
        TALLY.due("proof of none", z.proof(2, 0), 9);
        TALLY.due("proof of the like", z.proof(2, 1), 9);
        TALLY.due("proof of calm: he comes", z.proof(1, 1), 19);
        TALLY.due("proof to a", z.proof(2, 2), 0);
    }

    private static void mending() {
        SharesComing x = Tally.of(TURN);
        TALLY.due("keeping share", x.mended(0, 0), 666);
        TALLY.due("mending share", x.mended(0, 1), 666);
        TALLY.due("keeping sum", x.mended(2, 0), 0);
        TALLY.due("mended 2", x.mended(0, 2), -1);
        TALLY.due("mended -1", x.mended(0, -1), -1);
        SharesComing y = Tally.of("heir a 5 0 0;late b 9 0 0;day 12 thing 0;day 12 thing 0;day 12 thing 0;"
            + "day 12 comes b;hold 1;back 1;");
        TALLY.due("two of three", y.sure(2, false), 23);
        TALLY.due("keeping the third", y.mended(2, 0), 4);
        TALLY.due("mending the third", y.mended(2, 1), 4);
        y.come(0);
        TALLY.due("keeping while it waits", y.mended(2, 0), 4);
        y.give(0);
        y.come(0);
        y.give(0);
        y.come(0);
        y.give(0);
        TALLY.due("too late to keep", y.mended(2, 0), 0);
        TALLY.due("not to mend", y.mended(2, 1), 4);
        SharesComing full = Tally.of("heir a 5 0 0;late b 9 0 0;" + "day 12 thing 0;".repeat(4) + "day 12 comes b;hold 2;");
        TALLY.due("hold beyond two", full.mended(2, 0), 4);
        TALLY.due("two held", full.sure(2, false), 28);
    }

    private static void ways() {
        SharesComing x = Tally.of(TURN);
        int[] mean = {444000, 444000, 444000, 444000, 444000};
        for (int way = 0; way < 5; way++) {
            TALLY.due("fare of " + way, x.fare(way, 0, false), 0);
            TALLY.due("mean fare of " + way, x.fare(way, 0, true), mean[way]);
        }
        TALLY.due("sum of way 0", x.fare(0, 2, false), 15);
        TALLY.due("sum of way 1", x.fare(1, 2, false), 10);
        TALLY.due("sum of way 2", x.fare(2, 2, true), 13333);
        SharesComing y = Tally.of("heir a 4 2 0;heir b 1 1 9;late c 20 20 20;day 12 thing 1;day 12 thing 1;day 12 thing 0;hold 1;");
        TALLY.due("most worth: all to a", y.fare(0, 2, false), 8);
        TALLY.due("fewest: a, b, a", y.fare(1, 2, false), 7);
        TALLY.due("least by own: a, b, b", y.fare(2, 2, false), 4);
        TALLY.due("held, then as by 0", y.fare(3, 2, false), 8);
        TALLY.due("held for share", y.fare(3, 0, false), 666);
        TALLY.due("way 5", y.fare(5, 2, false), VOID);
        TALLY.due("way -1", y.fare(-1, 2, false), VOID);
        for (int odd : ODD) {
            TALLY.due("fare of goal " + odd, y.fare(0, odd, true), VOID);
        }
        y.come(0);
        TALLY.due("fare while it waits", y.fare(0, 2, false), VOID);
    }

    private static void papers() {
        SharesComing x = Tally.of("heir a 10 5 0;late b 3 20 5;day 12 thing 0;day 4 thing 1,8 thing 0;day 1 thing 1,3 none,8 thing 1;");
        TALLY.due("a of 0", x.paper(0, 0), 200);
        TALLY.due("a of 1", x.paper(0, 1), 65);
        TALLY.due("a of 2", x.paper(0, 2), 0);
        TALLY.due("b of 1, not come yet", x.paper(1, 1), 260);
        TALLY.due("no heir 2", x.paper(2, 0), -1);
        for (int odd : ODD) {
            TALLY.due("heir " + odd, x.paper(odd, 0), -1);
            TALLY.due("sort " + odd, x.paper(0, odd), -1);
        }
        x.come(0);
        TALLY.due("what waits isn't to come", x.paper(0, 0), 80);
        x.give(0);
        x.come(0);
        x.give(0);
        x.come(1);
        TALLY.due("nothing to come", x.paper(1, 1), 0);
    }

    private static void rowsOfGifts() {
        SharesComing x = Tally.of("heir a 4 1 0;late b 2 5 7;day 12 thing 0;day 6 comes b,6 none;day 4 thing 1,4 thing 2,4 none;hold 1;");
        int[][] due = {
            {0, 0, -1}, {0, 1, 0}, {0, 2, 0}, {0, 3, -1}, {0, 16, -1}, {0, 32, 2}, {0, 48, -1}, {0, 51, 2}, {0, 4, 1},
            {4, 16, 2}, {4, 48, -1}, {36, 16, 2}, {32, 0, -1}, {32, 16, 2}, {32, 12, 1}, {48, 0, 9}, {64, 0, 9},
            {0, 64, 9}, {1, 0, 9}, {8, 0, 9}, {-1, 0, 9}, {0, -1, 9}, {0, Integer.MIN_VALUE, 9},
            {Integer.MIN_VALUE, 0, 9}, {0, 1 << 30, 9}, {0, 65, 9}};
        for (int[] row : due) {
            String rows = row[0] + " " + row[1];
            TALLY.due("judge " + rows, x.judge(row[0], row[1]), row[2]);
            if (row[2] != -1) {
                TALLY.due("judged " + rows, x.judged(2, row[0], row[1]), VOID);
            }
        }
        TALLY.due("a, then a", x.judged(2, 0, 0), 5);
        TALLY.due("a, then b", x.judged(2, 0, 16), 9);
        TALLY.due("held goes to who has most of it", x.judged(2, 16, 3), 4);
        TALLY.due("a, then sort 2 to b", x.judged(2, 16, 16), 11);
        TALLY.due("share of that", x.judged(0, 16, 16), 1555);
        TALLY.due("calm of all to a", x.judged(1, 0, 0), -2);
        for (int odd : ODD) {
            TALLY.due("judged by goal " + odd, x.judged(odd, 0, 0), VOID);
        }
        x.come(0);
        TALLY.due("judge while it waits", x.judge(0, 0), 9);
        TALLY.due("judged while it waits", x.judged(2, 0, 0), VOID);
        x.give(3);
        TALLY.due("judge from here", x.judge(0, 12), 1);
        TALLY.due("judge on the first day to come", x.judge(0, 3), 0);
        TALLY.due("judged from here", x.judged(2, 0, 4), 9);
        TALLY.due("three digits are too many", x.judge(0, 16), 9);
    }

    private static void waiting() {
        SharesComing x = Tally.of(TURN);
        x.come(0);
        for (int goal = 0; goal < 3; goal++) {
            TALLY.due("proof while it waits", x.proof(goal, 0), -1);
            TALLY.due("known while it waits", x.known(goal, 0), VOID);
            TALLY.due("cost while it waits", x.cost(goal), VOID);
        }
    }

    private static void wrongGoals() {
        SharesComing x = Tally.of("heir a 1 2 3;day 12 thing 0;");
        for (int odd : ODD) {
            TALLY.due("sure " + odd, x.sure(odd, false), VOID);
            TALLY.due("mean " + odd, x.sure(odd, true), VOID);
            TALLY.due("proof " + odd, x.proof(odd, 0), -1);
            TALLY.due("known " + odd, x.known(odd, 0), VOID);
            TALLY.due("cost " + odd, x.cost(odd), VOID);
            TALLY.due("mended " + odd, x.mended(odd, 0), -1);
            TALLY.due("mended what " + odd, x.mended(0, odd), -1);
            TALLY.due("proof k " + odd, x.proof(0, odd), -1);
        }
        x.come(0);
        for (int odd : ODD) {
            TALLY.due("best " + odd, x.best(odd, false), -1);
        }
        x.give(0);
        for (int odd : ODD) {
            TALLY.due("reached " + odd, x.reached(odd), VOID);
        }
        TALLY.due("reached", x.reached(2), 1);
    }

    private static void noDays() {
        SharesComing x = Tally.of("heir a 1 2 3;heir b 1 1 1;");
        goals(x, "no days", 1000, 0, 0);
        TALLY.due("sure", x.sure(0, false), 1000);
        TALLY.due("mean", x.sure(0, true), 1000000);
        TALLY.due("known", x.known(0, 0), 1000);
        TALLY.due("known 1", x.known(0, 1), VOID);
        TALLY.due("cost", x.cost(0), 0);
        TALLY.due("fare", x.fare(4, 0, true), 1000000);
        TALLY.due("judge", x.judge(0, 0), -1);
        TALLY.due("judge 1", x.judge(0, 1), 9);
        TALLY.due("judged", x.judged(0, 0, 0), 1000);
        TALLY.due("proof", x.proof(0, 0), -1);
        TALLY.due("come", x.come(0), -1);
    }
}
