/** Promises 10 to 20 and ==== 2 to 4: each sentence that names an edge, on both sides of it, reckoned by hand. */
public final class EdgeWorthTest {
    private static final Tally TALLY = new Tally("EdgeWorthTest");
    private static final int VOID = SharesComing.VOID;
    private static final int[] NO_GOALS = {Tally.LEAST, -1, 3, 4, Tally.MOST};
    private static final int[] NO_ROWS = {Tally.LEAST, Tally.LEAST + 1, -4096, -1, 1 << 12, 1 << 30, Tally.MOST};

    /** Whom the first thing should go to depends on which the second is. */
    private static final String TURN = "heir a 10 5 0;heir b 10 0 5;day 12 thing 0;day 4 thing 1,8 thing 2;";
    private static final String SIX = "day 4 thing 0,4 thing 1,4 thing 2;".repeat(6);

    public static void main(String[] args) {
        goalsThatAre();
        reachedBehindAllDays();
        heldGoesToWhoCame();
        backAtMost();
        backToAnotherWhoCame();
        shareIsCut();
        shareIfAllHaveNothing();
        shareOfWhoCame();
        calmOfCouples();
        calmIsNoMoreThan();
        calmLeavesTheFewestOut();
        sumOfWhoCame();
        sureAndMeanWhileItWaits();
        meanIsCutTowardZero();
        meanIsExact();
        bestOfLikeOnes();
        bestComparesExactMeans();
        bestOfWhatMayBe();
        proofOfDaysToCome();
        proofOfLikeOnes();
        rowsThatCanBe();
        rowsFromNowOn();
        knownKeepsTheOrder();
        costOfNotKnowing();
        waysThatAre();
        waysOfLikeOnes();
        wayToHold();
        wayAsIsBest();
        keepingAndMending();
        papers();
        lawfulRows();
        rowsOfGiftsThatCanBe();
        judgedLawfulAlone();
        TALLY.finish();
    }

    private static SharesComing walked(String will, int... gifts) {
        SharesComing x = Tally.of(will);
        for (int gift : gifts) {
            x.come(0);
            x.give(gift);
        }
        return x;
    }

    private static void goals(SharesComing x, String when, int share, int calm, int sum) {
        TALLY.due(when + ", share", x.reached(0), share);
        TALLY.due(when + ", calm", x.reached(1), calm);
        TALLY.due(when + ", sum", x.reached(2), sum);
    }

    private static String things(String sorts) {
        StringBuilder days = new StringBuilder();
        for (char sort : sorts.toCharArray()) {
            days.append("day 12 thing ").append(sort).append(';');
        }
        return days.toString();
    }

    private static void goalsThatAre() {
        SharesComing start = Tally.of("heir a 1 2 3;day 12 thing 1;");
        SharesComing waiting = Tally.of("heir a 1 2 3;day 12 thing 1;");
        waiting.come(0);
        SharesComing over = walked("heir a 1 2 3;day 12 thing 1;", 0);
        for (int goal : NO_GOALS) {
            TALLY.due("sure " + goal, start.sure(goal, false), VOID);
            TALLY.due("mean " + goal, start.sure(goal, true), VOID);
            TALLY.due("sure of what waits " + goal, waiting.sure(goal, false), VOID);
            TALLY.due("best " + goal, waiting.best(goal, false), -1);
            TALLY.due("best by mean " + goal, waiting.best(goal, true), -1);
            TALLY.due("proof " + goal, start.proof(goal, 0), -1);
            TALLY.due("known " + goal, start.known(goal, 0), VOID);
            TALLY.due("cost " + goal, start.cost(goal), VOID);
            TALLY.due("mended " + goal, start.mended(goal, 0), -1);
            TALLY.due("mended, too, " + goal, start.mended(goal, 1), -1);
            TALLY.due("judged " + goal, start.judged(goal, 0, 0), VOID);
            TALLY.due("reached " + goal, over.reached(goal), VOID);
            for (int way = 0; way < 5; way++) {
                TALLY.due("fare " + goal, start.fare(way, goal, false), VOID);
                TALLY.due("mean fare " + goal, start.fare(way, goal, true), VOID);
            }
        }
        int[] due = {1000, 0, 2};
        for (int goal = 0; goal < 3; goal++) {
            TALLY.due("sure " + goal, start.sure(goal, false), due[goal]);
            TALLY.due("mean " + goal, start.sure(goal, true), due[goal] * 1000);
            TALLY.due("best " + goal, waiting.best(goal, false), 0);
            TALLY.due("proof " + goal, start.proof(goal, 0), 0);
            TALLY.due("known " + goal, start.known(goal, 0), due[goal]);
            TALLY.due("cost " + goal, start.cost(goal), 0);
            TALLY.due("mended " + goal, start.mended(goal, 0), 0);
            TALLY.due("judged " + goal, start.judged(goal, 0, 0), due[goal]);
            TALLY.due("reached " + goal, over.reached(goal), due[goal]);
            TALLY.due("fare " + goal, start.fare(0, goal, false), due[goal]);
        }
    }

    private static void reachedBehindAllDays() {
        for (int days = 0; days <= 6; days++) {
            SharesComing x = Tally.of("heir a 7 0 0;" + "day 12 thing 0;".repeat(days));
            for (int day = 0; day < days; day++) {
                TALLY.due("day " + day + " of " + days, x.reached(2), VOID);
                x.come(0);
                TALLY.due("it waits on day " + day + " of " + days, x.reached(2), VOID);
                x.give(0);
            }
            TALLY.due("all " + days + " are over", x.reached(2), 7 * days);
        }
    }

    private static void heldGoesToWhoCame() {
        String late = "heir a 3 0 0;late b 20 0 0;day 12 thing 0;day 6 none,6 comes b;hold 1;";
        SharesComing x = walked(late, 3);
        x.image(0);
        x.come(0);
        TALLY.due("b didn't come: a has it", x.reached(2), 3);
        x.on(0);
        x.come(1);
        TALLY.due("b came, though behind the thing", x.reached(2), 20);
        TALLY.due("and it is held until then", x.count(4), 1);
        SharesComing y = walked("heir a 1 0 0;heir b 1 0 0;late c 1 0 0;" + things("0") + "hold 1;", 3);
        goals(y, "calm would like it with c, who didn't come", 0, -1, 1);
        goals(walked("heir a 2 1 0;heir b 1 2 0;" + things("01") + "hold 2;", 3, 3), "each to another", 1333, 0, 4);
        goals(walked("heir a 2 1 0;heir b 1 2 0;" + things("00") + "hold 2;", 3, 3), "the goals part", 1000, 0, 4);
    }

    private static void backAtMost() {
        String two = "heir a 1 0 0;heir b 5 0 0;" + things("00");
        TALLY.due("back 0", walked(two, 0, 0).reached(2), 2);
        TALLY.due("back 1 takes one alone", walked(two + "back 1;", 0, 0).reached(2), 6);
        TALLY.due("back 1 takes none if that is best", walked(two + "back 1;", 1, 1).reached(2), 10);
        TALLY.due("back 1 mends all of one", walked(two + "back 1;", 0, 1).reached(2), 10);
        TALLY.due("held is no taking back", walked(two + "back 1;hold 1;", 0, 3).reached(2), 10);
        TALLY.due("each goal has its own end", walked(two + "back 1;", 1, 1).reached(0), 1000);
    }

    private static void backToAnotherWhoCame() {
        String like = "heir a 1 0 0;heir b 1 0 0;late c 1 0 0;";
        TALLY.due("calm would like it with c", walked(like + things("0") + "back 1;", 0).reached(1), -1);
        TALLY.due("calm would take three to c", walked(like + things("000") + "back 1;", 0, 0, 0).reached(1), -1);
        SharesComing y = walked("heir a 3 0 0;heir b 1 0 0;late c 20 0 0;" + things("00") + "back 1;", 1, 1);
        TALLY.due("c didn't come: one to a", y.reached(2), 4);
        TALLY.due("calm with one taken back", y.reached(1), 0);
        TALLY.due("b didn't come", walked("heir a 3 0 0;late b 20 0 0;day 12 thing 0;back 1;", 0).reached(2), 3);
        TALLY.due("one heir alone", walked("heir a 3 0 0;day 12 thing 0;back 1;", 0).reached(2), 3);
        SharesComing x = walked("heir a 3 0 0;late b 20 0 0;day 12 thing 0;day 12 comes b;back 1;", 0, 9);
        TALLY.due("b came behind it", x.reached(2), 20);
        TALLY.due("a has it until then", x.heir(0, 4), 1);
    }

    private static void shareIsCut() {
        String like = "heir a 1 0 0;heir b 1 0 0;";
        TALLY.due("one of three", walked(like + things("000"), 0, 0, 1).reached(0), 666);
        TALLY.due("two of four", walked(like + things("0000"), 0, 0, 1, 1).reached(0), 1000);
        TALLY.due("one of six", walked(like + things("000000"), 0, 0, 0, 0, 0, 1).reached(0), 333);
        TALLY.due("none of one", walked(like + things("0"), 0).reached(0), 0);
        String apart = "heir a 20 0 0;heir b 0 20 0;heir c 0 0 20;" + things("012012");
        TALLY.due("most that can be", walked(apart, 0, 1, 2, 0, 1, 2).reached(0), 3000);
        TALLY.due("the least of all", walked(apart, 0, 1, 2, 0, 1, 0).reached(0), 1500);
        TALLY.due("none of his", walked(apart, 0, 1, 1, 0, 1, 0).reached(0), 0);
    }

    private static void shareIfAllHaveNothing() {
        TALLY.due("no things at all", walked("heir a 1 1 1;heir b 1 1 1;").reached(0), 1000);
        TALLY.due("all worth nothing to him", walked("heir a 0 1 1;" + things("0"), 0).reached(0), 1000);
        String two = "heir a 0 1 1;heir b 3 0 0;" + things("0");
        TALLY.due("b has all, of nothing a has a share", walked(two, 1).reached(0), 1000);
        TALLY.due("a has what is worth nothing to him", walked(two, 0).reached(0), 0);
        String three = "heir a 0 0 1;heir b 3 0 0;heir c 0 3 0;" + things("01");
        TALLY.due("a's 1000 is the least", walked(three, 1, 2).reached(0), 1000);
        TALLY.due("one alone has all", walked("heir a 1 0 0;" + things("0"), 0).reached(0), 1000);
    }

    private static void shareOfWhoCame() {
        String text = "heir a 1 0 0;late b 1 0 0;late c 1 0 0;day 12 thing 0;day 6 none,6 comes c;day 6 none,6 comes b;";
        SharesComing x = walked(text, 0);
        x.come(0);
        x.image(0);
        x.come(0);
        goals(x, "a alone", 1000, 0, 1);
        x.on(0);
        x.come(1);
        goals(x, "a and b", 0, -1, 1);
        String apart = "heir a 1 0 0;late b 0 1 0;late c 0 0 1;day 12 comes b;day 12 thing 0;day 12 thing 1;";
        TALLY.due("times two who came, not three", walked(apart, 9, 0, 1).reached(0), 2000);
    }

    private static void calmOfCouples() {
        TALLY.due("one heir: no couple", walked("heir a 1 1 1;" + things("00"), 0, 0).reached(1), 0);
        TALLY.due("who didn't come is in none", walked("heir a 1 1 1;late b 9 9 9;" + things("00"), 0, 0).reached(1), 0);
        String two = "heir a 1 0 0;heir b 1 0 0;" + things("000000");
        TALLY.due("b looks at a", walked(two, 0, 0, 0, 0, 0, 0).reached(1), -6);
        TALLY.due("a looks at b", walked(two, 1, 1, 1, 1, 1, 1).reached(1), -6);
        TALLY.due("three each", walked(two, 1, 1, 1, 0, 0, 0).reached(1), 0);
        String three = "heir a 0 0 0;heir b 1 0 0;heir c 1 0 0;" + things("000");
        TALLY.due("the most of all couples", walked(three, 1, 1, 0).reached(1), -2);
        TALLY.due("c looks at each alone", walked(three, 0, 0, 1).reached(1), -2);
    }

    private static void calmIsNoMoreThan() {
        String text = "heir a 5 5 6;heir b 0 0 0;" + things("01");
        TALLY.due("as much is no more", walked(text, 0, 1).reached(1), 0);
        TALLY.due("one more is more", walked("heir a 5 6 0;heir b 0 0 0;" + things("01"), 0, 1).reached(1), -1);
        TALLY.due("as much is left", walked("heir a 5 1 0;heir b 0 0 0;" + things("001"), 0, 1, 1).reached(1), -1);
        TALLY.due("worth nothing to him", walked("heir a 0 1 1;heir b 1 1 1;" + things("00"), 1, 1).reached(1), 0);
    }

    private static void calmLeavesTheFewestOut() {
        String text = "heir a 1 2 20;heir b 0 0 0;" + things("000112");
        TALLY.due("27 less all", walked(text, 1, 1, 1, 1, 1, 1).reached(1), -6);
        TALLY.due("26 less 20, 2, 2, 1", walked(text, 0, 1, 1, 1, 1, 1).reached(1), -4);
        TALLY.due("25 less 20, 2, 1", walked(text, 0, 0, 1, 1, 1, 1).reached(1), -3);
        TALLY.due("24 less 20 and 2", walked(text, 0, 0, 0, 1, 1, 1).reached(1), -2);
        TALLY.due("22 less 20", walked(text, 0, 0, 0, 0, 1, 1).reached(1), -1);
        TALLY.due("7 less none", walked(text, 1, 1, 1, 1, 1, 0).reached(1), 0);
        String first = "heir a 20 2 1;heir b 0 0 0;" + things("000112");
        TALLY.due("25 beat 40", walked(first, 0, 1, 1, 0, 0, 0).reached(1), -1);
        TALLY.due("60 beat 5", walked(first, 0, 0, 0, 1, 1, 1).reached(1), 0);
        TALLY.due("one beats 64 less 60 and 2 and 2", walked(first, 1, 1, 1, 1, 1, 0).reached(1), -5);
        TALLY.due("two beat 63 less 60 and 2", walked(first, 1, 1, 1, 0, 1, 1).reached(1), -4);
        String last = "heir a 1 20 3;heir b 0 0 0;" + things("12");
        TALLY.due("no thing of sort 0", walked(last, 1, 1).reached(1), -2);
        TALLY.due("20 to leave out", walked(last, 1, 0).reached(1), -1);
    }

    private static void sumOfWhoCame() {
        TALLY.due("least", walked("heir a 0 20 20;" + things("000000"), 0, 0, 0, 0, 0, 0).reached(2), 0);
        TALLY.due("most", walked("heir a 20 0 0;" + things("000000"), 0, 0, 0, 0, 0, 0).reached(2), 120);
        TALLY.due("each by his own", walked("heir a 20 1 0;heir b 2 19 0;" + things("0101"), 1, 0, 0, 1).reached(2), 42);
    }

    private static void sureAndMeanWhileItWaits() {
        SharesComing x = Tally.of(TURN);
        TALLY.due("sure", x.sure(0, false), 0);
        x.come(0);
        TALLY.due("sure while it waits", x.sure(0, false), 0);
        TALLY.due("mean while it waits", x.sure(0, true), 444000);
        x.give(0);
        x.come(1);
        TALLY.due("sure of the last that waits", x.sure(0, false), 666);
        TALLY.due("mean of the last that waits", x.sure(0, true), 666000);
        x.give(0);
        TALLY.due("sure behind all days", x.sure(0, false), 0);
        TALLY.due("is what is reached", x.reached(0), 0);
    }

    private static void meanIsCutTowardZero() {
        String like = "heir a 1 0 0;heir b 1 0 0;";
        TALLY.due("-11/12", Tally.of(like + "day 11 thing 0,1 none;").sure(1, true), -916);
        TALLY.due("-1/12", Tally.of(like + "day 1 thing 0,11 none;").sure(1, true), -83);
        TALLY.due("7/12", Tally.of(like + "day 7 thing 0,5 none;").sure(2, true), 583);
        String both = "heir a 0 0 0;late b 1 0 0;late c 1 0 0;day 1 comes b,11 none;day 1 comes c,11 none;";
        SharesComing x = Tally.of(both + "day 1 thing 0,11 none;");
        TALLY.due("-1/1728 is 0", x.sure(1, true), 0);
        TALLY.due("and -1 for sure", x.sure(1, false), -1);
        TALLY.due("fare, too", x.fare(0, 1, true), 0);
        TALLY.due("-1/144", Tally.of(both + "day 12 thing 0;").sure(1, true), -6);
        TALLY.due("fare of -1/144", Tally.of(both + "day 12 thing 0;").fare(0, 1, true), -6);
    }

    private static void meanIsExact() {
        SharesComing x = Tally.of("heir a 1 0 0;" + "day 1 thing 0,11 none;".repeat(6));
        TALLY.due("six times 1/12 is a half", x.sure(2, true), 500);
        TALLY.due("fare likewise", x.fare(0, 2, true), 500);
        SharesComing seven = Tally.of("heir a 7 0 0;" + "day 1 thing 0,11 none;".repeat(6));
        TALLY.due("three and a half", seven.sure(2, true), 3500);
        SharesComing third = Tally.of("heir a 1 0 0;" + "day 2 thing 0,10 none;".repeat(2) + "day 12 none;".repeat(4));
        TALLY.due("a third, cut once", third.sure(2, true), 333);
        SharesComing most = Tally.of("heir a 20 0 0;heir b 0 20 0;heir c 0 0 20;" + SIX);
        TALLY.due("the greatest mean sum", most.sure(2, true), 120000);
        SharesComing share = Tally.of("heir a 20 0 0;heir b 0 20 0;heir c 0 0 20;" + things("012012"));
        TALLY.due("the greatest mean share", share.sure(0, true), 3000000);
    }

    private static void bestOfLikeOnes() {
        String three = "heir a 5 1 0;heir b 5 2 0;heir c 4 2 0;";
        SharesComing x = Tally.of(three + "day 6 thing 0,6 thing 1;hold 2;");
        x.image(0);
        x.come(0);
        TALLY.due("a and b are alike", x.best(2, false), 0);
        TALLY.due("in the mean, too", x.best(2, true), 0);
        x.on(0);
        x.come(1);
        TALLY.due("b and c and held are alike", x.best(2, false), 1);
        TALLY.due("in the mean, too", x.best(2, true), 1);
        SharesComing y = Tally.of("heir a 5 0 0;late b 6 0 0;day 12 thing 0;day 1 comes b,11 none;hold 1;");
        y.come(0);
        TALLY.due("held is like a for sure", y.best(2, false), 0);
        TALLY.due("held is better in the mean", y.best(2, true), 3);
        SharesComing z = Tally.of("heir a 5 0 0;late b 5 0 0;day 12 thing 0;day 1 comes b,11 none;hold 1;");
        z.come(0);
        TALLY.due("held is like a in the mean", z.best(2, true), 0);
        TALLY.due("calm wants it with a", z.best(1, false), 0);
    }

    /** Given to b it is better only if all three come: 1/1728, which the cut mean doesn't show. */
    private static void bestComparesExactMeans() {
        SharesComing x = Tally.of("heir a 0 1 0;heir b 0 0 0;late c 2 1 0;day 12 thing 0;"
            + "day 1 comes c,11 none;day 1 thing 0,11 none;day 1 thing 1,11 none;");
        x.come(0);
        TALLY.due("best by the exact mean", x.best(1, true), 1);
        x.image(0);
        x.give(0);
        TALLY.due("the cut mean with a", x.sure(1, true), -76);
        x.on(0);
        x.give(1);
        TALLY.due("the cut mean with b", x.sure(1, true), -76);
    }

    private static void bestOfWhatMayBe() {
        SharesComing x = Tally.of("late a 20 20 20;heir b 1 1 1;day 12 thing 0;day 12 comes a;");
        TALLY.due("nothing waits", x.best(2, false), -1);
        x.come(0);
        TALLY.due("a hasn't come", x.best(2, false), 1);
        x.give(1);
        TALLY.due("nothing waits any more", x.best(2, false), -1);
        SharesComing y = Tally.of("heir b 1 1 1;late a 20 20 20;day 12 thing 0;day 12 thing 0;day 12 comes a;hold 1;");
        y.come(0);
        TALLY.due("like: the first or the second held", y.best(2, false), 0);
        y.give(3);
        y.come(0);
        TALLY.due("no more may be held", y.best(2, false), 0);
    }

    private static void proofOfDaysToCome() {
        SharesComing x = Tally.of("heir a 3 2 1;day 4 thing 0,4 thing 1,4 thing 2;day 6 thing 0,6 none;day 12 thing 2;");
        int[] due = {20, 19, 0};
        for (int k = 0; k < 3; k++) {
            TALLY.due("proof " + k, x.proof(2, k), due[k]);
        }
        for (int k : new int[] {Tally.LEAST, -1, 3, 4, 6, Tally.MOST}) {
            TALLY.due("proof " + k, x.proof(2, k), -1);
        }
        x.come(0);
        TALLY.due("while it waits", x.proof(2, 0), -1);
        x.give(0);
        TALLY.due("from the second day on", x.proof(2, 0), 19);
        TALLY.due("its last", x.proof(2, 1), 0);
        TALLY.due("none behind", x.proof(2, 2), -1);
        x.come(1);
        x.come(0);
        x.give(0);
        TALLY.due("all days are over", x.proof(2, 0), -1);
        SharesComing six = Tally.of("heir a 1 1 1;" + "day 12 none;".repeat(6));
        TALLY.due("the sixth day", six.proof(0, 5), 9);
        TALLY.due("no seventh", six.proof(0, 6), -1);
    }

    private static void proofOfLikeOnes() {
        String will = "heir a 1 1 0;heir b 1 1 0;late c 0 0 0;";
        TALLY.due("all alike: the least", Tally.of(will + "day 4 none,4 comes c,4 none;").proof(2, 0), 9);
        TALLY.due("thing 2 is like none", Tally.of(will + "day 1 thing 1,5 thing 2,6 none;").proof(2, 0), 10);
        TALLY.due("none is like thing 2", Tally.of(will + "day 1 thing 1,5 none,6 thing 2;").proof(2, 0), 19);
        TALLY.due("things alike, heirs alike", Tally.of(will + "day 6 thing 1,6 thing 0;").proof(1, 0), 0);
        TALLY.due("chances don't matter", Tally.of(will + "day 11 thing 0,1 none;").proof(2, 0), 19);
        SharesComing held = Tally.of(TURN + "hold 1;");
        TALLY.due("held", held.proof(0, 0), 3);
        TALLY.due("then the least", held.proof(0, 1), 0);
        SharesComing turns = Tally.of("heir a 1 0 0;heir b 1 0 0;heir c 1 0 0;" + things("000"));
        for (int k = 0; k < 3; k++) {
            TALLY.due("each gift stands on the ones ahead, " + k, turns.proof(0, k), k);
        }
        SharesComing late = Tally.of("late a 9 0 0;heir b 1 0 0;day 6 comes a,6 none;day 12 thing 0;day 6 none,6 thing 0;");
        TALLY.due("sum: he doesn't come", late.proof(2, 0), 19);
        TALLY.due("so b has it", late.proof(2, 1), 1);
        TALLY.due("and no more", late.proof(2, 2), 9);
        TALLY.due("calm: he comes", late.proof(1, 0), 9);
        TALLY.due("and has it", late.proof(1, 1), 0);
    }

    private static void rowsThatCanBe() {
        SharesComing x = Tally.of("heir a 3 2 1;day 4 thing 0,4 thing 1,4 thing 2;day 6 thing 0,6 none;day 12 thing 2;");
        for (int row = 0; row < 256; row++) {
            boolean can = row % 4 < 3 && row / 4 % 4 < 2 && row / 16 == 0;
            int sum = 3 - row % 4 + (row / 4 % 4 == 0 ? 3 : 0) + 1;
            TALLY.due("known of " + row, x.known(2, row), can ? sum : VOID);
            TALLY.due("judge of " + row, x.judge(row, 0), can ? -1 : 9);
            TALLY.due("judged of " + row, x.judged(2, row, 0), can ? sum : VOID);
        }
        for (int row : NO_ROWS) {
            TALLY.due("known of " + row, x.known(2, row), VOID);
            TALLY.due("judge of " + row, x.judge(row, 0), 9);
            TALLY.due("judged of " + row, x.judged(2, row, 0), VOID);
        }
        SharesComing six = Tally.of("heir a 1 1 1;" + SIX);
        TALLY.due("the last row of six days", six.known(2, 2730), 6);
        TALLY.due("a fourth alt", six.known(2, 2731), VOID);
        TALLY.due("a fourth alt on the last day", six.known(2, 3072), VOID);
        TALLY.due("a seventh day", six.known(2, 4096), VOID);
        for (int row : NO_ROWS) {
            TALLY.due("known of " + row + ", six days", six.known(2, row), VOID);
        }
    }

    private static void rowsFromNowOn() {
        SharesComing x = Tally.of("heir a 3 2 1;day 4 thing 0,4 thing 1,4 thing 2;day 6 thing 0,6 none;");
        TALLY.due("the next day's digit is the lowest", x.known(2, 6), 1);
        x.come(2);
        TALLY.due("known while it waits", x.known(2, 0), VOID);
        TALLY.due("judge while it waits", x.judge(0, 0), 9);
        TALLY.due("judged while it waits", x.judged(2, 0, 0), VOID);
        x.give(0);
        TALLY.due("one day is left", x.known(2, 0), 4);
        TALLY.due("its second alt", x.known(2, 1), 1);
        TALLY.due("no third alt", x.known(2, 2), VOID);
        TALLY.due("no second day", x.known(2, 4), VOID);
        TALLY.due("judge of two days", x.judge(4, 0), 9);
        TALLY.due("judge of a gift of nothing", x.judge(1, 1), 0);
        TALLY.due("judged of its second alt", x.judged(2, 1, 0), 1);
        TALLY.due("judged of its first alt", x.judged(2, 0, 0), 4);
        x.come(1);
        TALLY.due("all days over", x.known(2, 0), 1);
        TALLY.due("all days over, row 1", x.known(2, 1), VOID);
        TALLY.due("all days over, row -1", x.known(2, -1), VOID);
        TALLY.due("all days over, judge", x.judge(0, 0), -1);
        TALLY.due("all days over, judge 1", x.judge(1, 0), 9);
        TALLY.due("all days over, gift 1", x.judge(0, 1), 9);
        TALLY.due("all days over, judged", x.judged(2, 0, 0), 1);
        TALLY.due("all days over, cost", x.cost(2), 0);
        String three = "heir a 1 0 0;heir b 2 5 0;day 12 thing 0;day 6 none,6 thing 1;day 6 thing 0,6 thing 1;";
        SharesComing y = walked(three, 0);
        TALLY.due("known of the second alts", y.known(2, 5), 11);
        TALLY.due("judge of the second alts", y.judge(5, 5), -1);
        TALLY.due("judged of the second alts", y.judged(2, 5, 5), 11);
        TALLY.due("judged of the one and the other", y.judged(2, 4, 4), 6);
        TALLY.due("the first day to come counts as 0", y.judge(0, 1), 0);
        TALLY.due("the second as 1", y.judge(0, 8), 1);
    }

    /** What is known beforehand comes in its turn all the same: only who CAME may be given to. */
    private static void knownKeepsTheOrder() {
        String will = "heir a 1 0 0;late b 9 0 0;day 12 thing 0;day 6 comes b,6 none;day 12 thing 0;";
        TALLY.due("the first to a, the last to b", Tally.of(will).known(2, 0), 10);
        TALLY.due("b doesn't come", Tally.of(will).known(2, 4), 2);
        TALLY.due("the first held", Tally.of(will + "hold 1;").known(2, 0), 18);
        TALLY.due("the first taken back", Tally.of(will + "back 1;").known(2, 0), 18);
        String two = "heir a 1 0 0;late b 9 0 0;" + things("000") + "day 12 comes b;";
        TALLY.due("one held", Tally.of(two + "hold 1;").known(2, 0), 11);
        TALLY.due("two held", Tally.of(two + "hold 2;").known(2, 0), 19);
        TALLY.due("two held and one taken back", Tally.of(two + "hold 2;back 1;").known(2, 0), 27);
    }

    private static void costOfNotKnowing() {
        SharesComing x = Tally.of(TURN);
        TALLY.due("not knowing costs", x.cost(0), 666);
        TALLY.due("the least known", x.known(0, 0), 666);
        TALLY.due("sum costs nothing", x.cost(2), 0);
        x.come(0);
        TALLY.due("cost while it waits", x.cost(0), VOID);
        x.give(0);
        TALLY.due("too late to know", x.cost(0), 0);
        TALLY.due("no days", Tally.of("heir a 1 1 1;").cost(0), 0);
        SharesComing calm = Tally.of("heir a 2 2 0;heir b 2 0 2;" + "day 12 thing 0;day 6 thing 1,6 thing 2;");
        TALLY.due("calm that is sure", calm.sure(1, false), -1);
        TALLY.due("calm that is known", calm.known(1, 0), 0);
        TALLY.due("cost of calm", calm.cost(1), 1);
        SharesComing late = Tally.of("heir a 1 0 0;late b 1 0 0;day 12 thing 0;day 6 none,6 thing 0;day 12 comes b;");
        TALLY.due("known below 0", late.known(1, 0), -1);
        TALLY.due("the least known below 0", late.known(1, 4), -2);
        TALLY.due("as is sure", late.sure(1, false), -2);
        TALLY.due("knowing doesn't help", late.cost(1), 0);
    }

    private static void waysThatAre() {
        SharesComing x = Tally.of("heir a 1 0 0;day 12 thing 0;");
        for (int way = 0; way <= 4; way++) {
            TALLY.due("way " + way, x.fare(way, 2, false), 1);
            TALLY.due("mean of way " + way, x.fare(way, 2, true), 1000);
        }
        for (int way : new int[] {Tally.LEAST, -1, 5, 6, Tally.MOST}) {
            TALLY.due("way " + way, x.fare(way, 2, false), VOID);
            TALLY.due("mean of way " + way, x.fare(way, 2, true), VOID);
        }
        x.come(0);
        for (int way = 0; way <= 4; way++) {
            TALLY.due("way " + way + " while it waits", x.fare(way, 2, false), VOID);
        }
        x.give(0);
        for (int way = 0; way <= 4; way++) {
            TALLY.due("way " + way + " behind all days", x.fare(way, 2, false), 1);
        }
    }

    private static void waysOfLikeOnes() {
        String like = "heir a 5 0 0;heir b 5 9 0;" + things("01");
        for (int way = 0; way <= 3; way++) {
            TALLY.due("way " + way + ": the first to a, so a doesn't mind b", Tally.of(like).fare(way, 1, false), 0);
            TALLY.due("way " + way + ": the second to b", Tally.of(like).fare(way, 2, false), 14);
        }
        String more = "heir a 4 0 0;heir b 5 0 0;" + things("0");
        int[] due = {5, 4, 4, 5, 4};
        for (int way = 0; way <= 4; way++) {
            TALLY.due("way " + way + ": to whom alone", Tally.of(more).fare(way, 2, false), due[way]);
        }
        String three = "late a 20 20 20;heir b 1 6 0;heir c 1 5 0;" + things("011");
        TALLY.due("a hasn't come: b, b, b", Tally.of(three).fare(0, 2, false), 13);
        TALLY.due("a hasn't come: b, c, b", Tally.of(three).fare(1, 2, false), 12);
        TALLY.due("b has 1, c 5, b 7", Tally.of(three).fare(2, 2, false), 12);
        String two = "heir b 0 6 0;heir c 1 5 0;";
        String naught = two + things("011");
        TALLY.due("fewest: b has one that is worth nothing", Tally.of(naught).fare(1, 2, false), 11);
        TALLY.due("least by own: b still", Tally.of(naught).fare(2, 2, false), 11);
        TALLY.due("worth most: c, b, b", Tally.of(naught).fare(0, 2, false), 13);
        String once = two + things("01");
        TALLY.due("fewest: b, then c", Tally.of(once).fare(1, 2, false), 5);
        TALLY.due("least by own: b, then b", Tally.of(once).fare(2, 2, false), 6);
        TALLY.due("the least of what can come", Tally.of(two + "day 1 thing 2,11 thing 0;").fare(0, 2, false), 0);
        TALLY.due("its mean", Tally.of(two + "day 1 thing 2,11 thing 0;").fare(0, 2, true), 916);
    }

    private static void wayToHold() {
        String will = "heir a 5 0 0;late b 9 0 0;" + things("000") + "day 12 comes b;";
        TALLY.due("hold 0: as by 0", Tally.of(will).fare(3, 2, false), 15);
        TALLY.due("hold 1: the first", Tally.of(will + "hold 1;").fare(3, 2, false), 19);
        TALLY.due("hold 2: the first two", Tally.of(will + "hold 2;").fare(3, 2, false), 23);
        SharesComing most = Tally.of("heir a 1 0 0;heir b 4 0 0;" + things("00") + "hold 1;");
        TALLY.due("else to whom it is worth most", most.fare(3, 2, false), 8);
        SharesComing x = walked(will + "hold 2;", 3);
        TALLY.due("one is held already", x.fare(3, 2, false), 23);
        x.come(0);
        x.give(3);
        TALLY.due("two are held already", x.fare(3, 2, false), 23);
    }

    /** SHARE gives the first thing to b, who likes nothing else; SUM would not. */
    private static void wayAsIsBest() {
        String will = "heir a 9 9 0;heir b 3 0 0;" + things("01");
        TALLY.due("share", Tally.of(will).fare(4, 0, false), 1000);
        TALLY.due("sum of the way for share", Tally.of(will).fare(4, 2, false), 12);
        TALLY.due("sum by worth", Tally.of(will).fare(0, 2, false), 18);
        TALLY.due("share as is sure", Tally.of(TURN).fare(4, 0, false), Tally.of(TURN).sure(0, false));
        String other = "heir a 10 5 0;heir b 10 0 5;day 12 thing 0;day 8 thing 1,4 thing 2;";
        TALLY.due("its mean isn't the greatest", Tally.of(other).fare(4, 0, true), 222000);
        TALLY.due("which is", Tally.of(other).sure(0, true), 444000);
    }

    private static void keepingAndMending() {
        SharesComing no = Tally.of(TURN);
        for (int what : new int[] {Tally.LEAST, -1, 2, 3, Tally.MOST}) {
            TALLY.due("mended " + what, no.mended(0, what), -1);
        }
        TALLY.due("keeping", no.mended(0, 0), 666);
        TALLY.due("mending", no.mended(0, 1), 666);
        String will = "heir a 1 0 0;late b 9 0 0;" + things("0000") + "day 12 comes b;";
        for (int hold = 0; hold <= 2; hold++) {
            for (int back = 0; back <= 1; back++) {
                SharesComing x = Tally.of(will + "hold " + hold + ";back " + back + ";");
                String with = " with hold " + hold + " and back " + back;
                int late = hold + back;
                TALLY.due("sure" + with, x.sure(2, false), 4 + 8 * late);
                TALLY.due("keeping" + with, x.mended(2, 0), 8);
                TALLY.due("mending" + with, x.mended(2, 1), 8);
                x.come(0);
                TALLY.due("keeping while it waits" + with, x.mended(2, 0), 8);
                TALLY.due("mending while it waits" + with, x.mended(2, 1), 8);
            }
        }
        SharesComing over = walked(will + "hold 2;back 1;", 3, 3, 0, 0, 9);
        TALLY.due("behind all days nothing is kept", over.mended(2, 0), 0);
        TALLY.due("but mended", over.mended(2, 1), 8);
        SharesComing enough = walked(will + "hold 2;back 1;", 3, 3, 0);
        TALLY.due("the last one may be kept yet", enough.mended(2, 0), 8);
        SharesComing one = Tally.of("heir a 1 0 0;late b 9 0 0;day 12 thing 0;day 12 comes b;back 1;");
        TALLY.due("one more than all", one.mended(2, 1), 0);
    }

    private static void papers() {
        SharesComing x = Tally.of("heir a 20 3 0;late b 1 0 7;"
            + "day 1 thing 0,10 none,1 thing 0;day 12 comes b;day 6 thing 2,6 thing 1;");
        int[][] due = {{40, 18, 0}, {2, 0, 42}};
        for (int heir = 0; heir < 2; heir++) {
            for (int sort = 0; sort < 3; sort++) {
                TALLY.due("paper " + heir + ", " + sort, x.paper(heir, sort), due[heir][sort]);
            }
            for (int far : new int[] {Tally.LEAST, -1, 3, 4, Tally.MOST}) {
                TALLY.due("sort " + far, x.paper(heir, far), -1);
            }
        }
        for (int far : new int[] {Tally.LEAST, -1, 2, 3, Tally.MOST}) {
            TALLY.due("heir " + far, x.paper(far, 0), -1);
        }
        x.come(0);
        TALLY.due("what waits isn't to come", x.paper(0, 0), 0);
        TALLY.due("what is to come yet", x.paper(0, 1), 18);
        x.give(0);
        x.come(0);
        TALLY.due("the last day to come", x.paper(1, 2), 42);
        x.come(0);
        TALLY.due("none to come", x.paper(1, 2), 0);
        SharesComing most = Tally.of("heir a 20 0 0;heir b 0 0 0;heir c 0 0 20;" + "day 6 thing 0,6 thing 2;".repeat(6));
        TALLY.due("half of six days", most.paper(0, 0), 720);
        TALLY.due("the last heir and sort", most.paper(2, 2), 720);
        TALLY.due("all of six days", Tally.of("heir a 20 0 0;" + things("000000")).paper(0, 0), 1440);
        TALLY.due("no days", Tally.of("heir a 20 0 0;").paper(0, 0), 0);
    }

    /** DAYS: a thing, b comes or not, a thing or not, a thing. */
    private static void lawfulRows() {
        String will = "heir a 4 1 0;late b 2 5 7;day 12 thing 0;day 6 comes b,6 none;day 6 thing 1,6 none;day 12 thing 2;";
        for (int hold = 0; hold <= 2; hold++) {
            SharesComing x = Tally.of(will + "hold " + hold + ";");
            for (int alts = 0; alts < 256; alts++) {
                boolean can = alts % 4 == 0 && alts / 4 % 4 < 2 && alts / 16 % 4 < 2 && alts / 64 == 0;
                for (int gifts = 0; gifts < 256; gifts++) {
                    int want = can ? firstUnlawful(alts, gifts, hold) : 9;
                    TALLY.due("judge " + alts + ", " + gifts + ", hold " + hold, x.judge(alts, gifts), want);
                }
            }
        }
    }

    private static int firstUnlawful(int alts, int gifts, int hold) {
        boolean bCame = alts / 4 % 4 == 0;
        boolean third = alts / 16 % 4 == 0;
        int held = 0;
        int[] to = {gifts % 4, gifts / 4 % 4, gifts / 16 % 4, gifts / 64};
        boolean[] thing = {true, false, third, true};
        boolean[] there = {false, false, bCame, bCame};
        for (int day = 0; day < 4; day++) {
            if (!thing[day] && to[day] != 0) {
                return day;
            }
            if (thing[day] && (to[day] == 2 || to[day] == 1 && !there[day] || to[day] == 3 && held == hold)) {
                return day;
            }
            held += to[day] == 3 ? 1 : 0;
        }
        return -1;
    }

    private static void rowsOfGiftsThatCanBe() {
        SharesComing x = Tally.of("heir a 1 0 0;heir b 2 0 0;heir c 3 0 0;day 12 thing 0;day 12 none;hold 1;");
        int[] due = {-1, -1, -1, -1, 1};
        for (int gifts = 0; gifts < due.length; gifts++) {
            TALLY.due("judge of gifts " + gifts, x.judge(0, gifts), due[gifts]);
        }
        TALLY.due("the last of two digits", x.judge(0, 15), 1);
        TALLY.due("the first of three", x.judge(0, 16), 9);
        for (int gifts : NO_ROWS) {
            TALLY.due("judge of gifts " + gifts, x.judge(0, gifts), 9);
            TALLY.due("judged of gifts " + gifts, x.judged(2, 0, gifts), VOID);
            TALLY.due("judge of both " + gifts, x.judge(gifts, gifts), 9);
        }
        SharesComing six = Tally.of("heir a 1 0 0;heir b 2 0 0;heir c 3 0 0;" + SIX);
        TALLY.due("all six to c", six.judge(0, 2730), -1);
        TALLY.due("the last one held", six.judge(0, 3072), 5);
        TALLY.due("a seventh gift", six.judge(0, 4096), 9);
        TALLY.due("all six to c, judged", six.judged(2, 0, 2730), 18);
    }

    private static void judgedLawfulAlone() {
        SharesComing x = Tally.of("heir a 1 0 0;late b 9 0 0;day 12 thing 0;day 12 comes b;day 12 thing 0;hold 1;");
        TALLY.due("both to a", x.judged(2, 0, 0), 2);
        TALLY.due("the last to b", x.judged(2, 0, 16), 10);
        TALLY.due("the first held, the end is as is best", x.judged(2, 0, 19), 18);
        TALLY.due("the last held", x.judged(2, 0, 48), 10);
        TALLY.due("b too early", x.judged(2, 0, 1), VOID);
        TALLY.due("two held", x.judged(2, 0, 51), VOID);
        TALLY.due("a gift of nothing", x.judged(2, 0, 4), VOID);
        TALLY.due("share of both to b and the held one", x.judged(0, 0, 19), 1000);
        TALLY.due("calm of both to a", x.judged(1, 0, 0), -2);
        TALLY.due("nothing was given by that", x.heir(0, 4) + x.count(2) + x.count(4), 0);
        TALLY.due("with back", Tally.of("heir a 1 0 0;heir b 9 0 0;" + things("00") + "back 1;").judged(2, 0, 0), 10);
    }
}
