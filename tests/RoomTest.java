import com.sun.management.ThreadMXBean;
import java.lang.management.ManagementFactory;

/** The dearest wills: their answers cost no more room than one run has, however often they are asked. */
public final class RoomTest {
    private static final Tally TALLY = new Tally("RoomTest");
    private static final String[] DAYS = {
        "day 4 thing 0,4 thing 1,4 thing 2;".repeat(6),
        "day 4 thing 0,4 comes c,4 comes b;day 4 thing 0,4 thing 2,4 comes c;day 4 thing 0,4 thing 1,4 comes b;"
            + "day 4 thing 0,4 thing 1,4 thing 2;".repeat(3)};
    /** Some 7.3 million elements are there; at eight bytes each this is less than a quarter of them. */
    private static final long ROOM = 14_000_000;

    public static void main(String[] args) {
        oneWill("heir a 20 13 7;heir b 11 17 3;heir c 5 6 19;" + DAYS[0] + "hold 2;back 1;");
        oneWill("heir a 20 13 7;late b 11 17 3;late c 5 6 19;" + DAYS[1] + "hold 2;back 1;");
        manyWills();
        TALLY.finish();
    }

    private static long used() {
        return ((ThreadMXBean) ManagementFactory.getThreadMXBean()).getCurrentThreadAllocatedBytes();
    }

    private static void oneWill(String will) {
        long before = used();
        SharesComing x = Tally.of(will);
        askAll(x);
        long first = used();
        for (int turn = 0; turn < 5; turn++) {
            x.come(turn % 3);
            x.give(0);
            askAll(x);
        }
        long second = used();
        TALLY.due("room for the first answers: " + (first - before), first - before <= ROOM, true);
        TALLY.due("room for later answers: " + (second - first), second - first <= 1000, true);
    }

    private static void askAll(SharesComing x) {
        for (int goal = 0; goal < 3; goal++) {
            x.sure(goal, false);
            x.sure(goal, true);
            x.cost(goal);
            x.mended(goal, 0);
            x.mended(goal, 1);
            x.known(goal, 0);
            x.proof(goal, 0);
            x.judged(goal, 0, 0);
            x.reached(goal);
            for (int way = 0; way < 5; way++) {
                x.fare(way, goal, true);
            }
        }
    }

    /** Ever larger wills on one object. */
    private static void manyWills() {
        long before = used();
        SharesComing x = new SharesComing();
        for (int days = 1; days <= 6; days++) {
            for (int late = 0; late < 3; late++) {
                Tally.tell(x, "heir a 1 2 3;" + (late > 1 ? "late b 2 1 3;" : "heir b 2 1 3;")
                    + (late > 0 ? "late c 1 1 9;" : "heir c 1 1 9;")
                    + "day 4 thing 0,4 thing 1,4 thing 2;".repeat(days) + "hold 2;back 1;");
                TALLY.due("matter", x.matter(), 3);
                askAll(x);
            }
        }
        long after = used();
        TALLY.due("room for many wills: " + (after - before), after - before <= 3 * ROOM, true);
    }
}
