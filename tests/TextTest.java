/** Promises 1, 2, 3 and 5: a new object, feed, end and matter. */
public final class TextTest {
    private static final Tally TALLY = new Tally("TextTest");
    private static final int BLANKS = 0x20202020;

    public static void main(String[] args) {
        newObject();
        feedAndEnd();
        byteOrder();
        matters();
        refusedMatterChangesNothing();
        TALLY.finish();
    }

    private static void newObject() {
        TALLY.due("NONE", SharesComing.NONE, -1);
        TALLY.due("VOID", SharesComing.VOID, Integer.MIN_VALUE);
        SharesComing x = new SharesComing();
        int[] counts = {0, 0, 0, 0, 0, -1, 0, 0, 0, -1};
        for (int what = 0; what < counts.length; what++) {
            TALLY.due("new count " + what, x.count(what), counts[what]);
        }
        TALLY.due("new fault", x.fault(), 0);
        TALLY.due("new matter", x.matter(), -1);
        TALLY.due("new heir", x.heir(0, 0), -1);
        TALLY.due("new alt", x.alt(0, 0, 0), -1);
        TALLY.due("new come", x.come(0), -1);
        TALLY.due("new give", x.give(0), false);
        TALLY.due("new give 3", x.give(3), false);
        for (int goal = -1; goal < 4; goal++) {
            TALLY.due("new reached", x.reached(goal), SharesComing.VOID);
            TALLY.due("new sure", x.sure(goal, false), SharesComing.VOID);
            TALLY.due("new mean", x.sure(goal, true), SharesComing.VOID);
            TALLY.due("new best", x.best(goal, false), -1);
            TALLY.due("new proof", x.proof(goal, 0), -1);
            TALLY.due("new known", x.known(goal, 0), SharesComing.VOID);
            TALLY.due("new cost", x.cost(goal), SharesComing.VOID);
            TALLY.due("new fare", x.fare(0, goal, false), SharesComing.VOID);
            TALLY.due("new mended", x.mended(goal, 0), -1);
            TALLY.due("new judged", x.judged(goal, 0, 0), SharesComing.VOID);
        }
        TALLY.due("new paper", x.paper(0, 0), -1);
        TALLY.due("new judge", x.judge(0, 0), 9);
        TALLY.due("new image", x.image(0), false);
        TALLY.due("new on", x.on(0), false);
    }

    private static void feedAndEnd() {
        SharesComing x = new SharesComing();
        TALLY.due("end 0", x.end(0), true);
        TALLY.due("end 1 of none", x.end(1), false);
        for (int times = 1; times <= 20; times++) {
            TALLY.due("feed " + times, x.feed(BLANKS, BLANKS, BLANKS, BLANKS, BLANKS), 20 * times);
        }
        TALLY.due("feed beyond 400", x.feed(0, 0, 0, 0, 0), -1);
        TALLY.due("fault of 400 blanks", x.fault(), 400);
        TALLY.due("end 401", x.end(401), false);
        TALLY.due("end -1", x.end(-1), false);
        TALLY.due("end least", x.end(Integer.MIN_VALUE), false);
        TALLY.due("end most", x.end(Integer.MAX_VALUE), false);
        TALLY.due("bytes stay", x.count(8), 400);
        TALLY.due("end 400", x.end(400), true);
        TALLY.due("end 381", x.end(381), true);
        TALLY.due("feed beyond by one", x.feed(0, 0, 0, 0, 0), -1);
        TALLY.due("bytes stay at 381", x.count(8), 381);
        TALLY.due("end 380", x.end(380), true);
        TALLY.due("feed to the brim", x.feed(0, 0, 0, 0, 0), 400);
        TALLY.due("the first zero byte", x.fault(), 380);
        TALLY.due("end 379", x.end(379), true);
        TALLY.due("end 380 is gone", x.end(380), false);
    }

    private static void byteOrder() {
        SharesComing x = new SharesComing();
        x.feed(0x68656972, 0x20612030, 0x20302030, 0x3b202020, 0x20202020);
        TALLY.due("highest byte first", x.fault(), -1);
        x.end(0);
        x.feed(0x72696568, 0x20612030, 0x20302030, 0x3b202020, 0x20202020);
        TALLY.due("lowest byte first", x.fault(), 0);
        x.end(0);
        x.feed(BLANKS, BLANKS, BLANKS, 0x2020ff20, BLANKS);
        TALLY.due("a high byte", x.fault(), 14);
        x.end(0);
        x.feed(BLANKS, -1, BLANKS, BLANKS, BLANKS);
        TALLY.due("a number below 0", x.fault(), 4);
    }

    private static void matters() {
        SharesComing x = new SharesComing();
        Tally.tell(x, "heir a 1 2 3;");
        TALLY.due("one heir", x.matter(), 1);
        TALLY.due("the text is empty", x.count(8), 0);
        TALLY.due("its fault", x.fault(), 0);
        TALLY.due("matter of no text", x.matter(), -1);
        TALLY.due("the old one stands", x.count(0), 1);
        Tally.tell(x, "heir a 1 2 3;late b 4 5 6;late c 7 8 9;day 12 thing 1;day 12 none;hold 2;back 1;");
        TALLY.due("three heirs", x.matter(), 3);
        TALLY.due("came", x.count(3), 1);
        TALLY.due("days", x.count(1), 2);
        TALLY.due("hold", x.count(6), 2);
        TALLY.due("back", x.count(7), 1);
        x.image(0);
        x.come(0);
        x.image(3);
        Tally.tell(x, "late q 1 1 1;heir p 2 2 2;day 12 thing 0;");
        TALLY.due("two heirs", x.matter(), 2);
        TALLY.due("first state: days over", x.count(2), 0);
        TALLY.due("first state: nothing waits", x.count(5), -1);
        TALLY.due("first state: came", x.count(3), 2);
        TALLY.due("hold is 0 again", x.count(6), 0);
        TALLY.due("back is 0 again", x.count(7), 0);
        TALLY.due("no image 0", x.on(0), false);
        TALLY.due("no image 3", x.on(3), false);
    }

    private static void refusedMatterChangesNothing() {
        SharesComing x = Tally.of("heir a 5 2 3;heir b 4 4 4;day 12 thing 0;day 12 thing 1;hold 1;");
        x.come(0);
        x.image(2);
        String bad = "heir z 9 9 9;late y 1 1 1;day 12 thing 2;hold 2;back 1;day 11 none;";
        Tally.tell(x, bad);
        TALLY.due("refused", x.matter(), -1);
        TALLY.due("refused again", x.matter(), -1);
        TALLY.due("its text stays", x.count(8), bad.length());
        TALLY.due("its fault stays", x.fault(), bad.length() - 1);
        int[] counts = {2, 2, 1, 3, 0, 0, 1, 0};
        for (int what = 0; what < counts.length; what++) {
            TALLY.due("count " + what + " behind a refused matter", x.count(what), counts[what]);
        }
        TALLY.due("worth stays", x.heir(0, 1), 5);
        TALLY.due("alt stays", x.alt(0, 0, 2), 0);
        TALLY.due("image stays", x.on(2), true);
        TALLY.due("sure stays", x.sure(2, false), 9);
    }
}
