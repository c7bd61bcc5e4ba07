import java.util.ArrayList;
import java.util.List;
import java.util.function.ToIntFunction;

/** An answer depends on NOW alone: not on what was asked before it, nor on a MATTER that was there before. */
public final class OrderTest {
    private static final Tally TALLY = new Tally("OrderTest");
    private static final String[] WILLS = {
        "heir a 10 5 0;heir b 10 0 5;day 12 thing 0;day 4 thing 1,8 thing 2;back 1;",
        "heir a 5 3 1;heir b 1 3 5;late c 4 4 4;day 4 thing 0,8 thing 1;day 6 comes c,6 thing 1;day 12 thing 2;hold 1;back 1;",
        "late a 2 9 4;heir b 7 1 3;day 12 thing 1;day 6 comes a,6 none;day 6 thing 0,6 thing 2;hold 2;",
        "heir a 10 5 0;heir b 10 0 5;day 12 thing 0;day 4 thing 1,8 thing 2;",
        "heir a 1 0 0;heir b 1 0 0;heir c 1 0 0;day 12 thing 0;day 6 thing 0,6 none;day 12 thing 0;day 12 thing 0;back 1;",
        "heir a 9 9 0;heir b 3 0 0;day 12 thing 0;day 12 thing 1;hold 1;"};
    private static final List<String> NAMES = new ArrayList<>();
    private static final List<ToIntFunction<SharesComing>> LOOKS = new ArrayList<>();

    public static void main(String[] args) {
        gatherLooks();
        for (int will = 0; will < WILLS.length; will++) {
            for (int steps = 0; steps <= 3; steps++) {
                compare(WILLS[will], steps, WILLS[(will + 1) % WILLS.length], WILLS[(will + 3) % WILLS.length]);
            }
        }
        TALLY.finish();
    }

    private static void look(String name, ToIntFunction<SharesComing> look) {
        NAMES.add(name);
        LOOKS.add(look);
    }

    private static void gatherLooks() {
        for (int g = 0; g < 3; g++) {
            int goal = g;
            look("reached " + goal, x -> x.reached(goal));
            look("sure " + goal, x -> x.sure(goal, false));
            look("mean " + goal, x -> x.sure(goal, true));
            look("best " + goal, x -> x.best(goal, false));
            look("best by mean " + goal, x -> x.best(goal, true));
            look("proof " + goal, x -> x.proof(goal, 0));
            look("proof 1 " + goal, x -> x.proof(goal, 1));
            look("known " + goal, x -> x.known(goal, 0));
            look("cost " + goal, x -> x.cost(goal));
            look("keeping " + goal, x -> x.mended(goal, 0));
            look("mending " + goal, x -> x.mended(goal, 1));
            look("judged " + goal, x -> x.judged(goal, 0, 0));
            for (int w = 0; w < 5; w++) {
                int way = w;
                look("fare " + way + " " + goal, x -> x.fare(way, goal, false));
                look("mean fare " + way + " " + goal, x -> x.fare(way, goal, true));
            }
        }
        look("judge", x -> x.judge(0, 1));
        look("paper", x -> x.paper(0, 0));
    }

    private static void compare(String will, int steps, String other, String third) {
        SharesComing asked = walked(new SharesComing(), will, steps);
        Picture.ofNow(asked);
        for (int k = 0; k < LOOKS.size(); k++) {
            String call = NAMES.get(k) + " behind " + steps + " steps of " + will;
            int due = LOOKS.get(k).applyAsInt(asked);
            TALLY.due(call + ", asked first", LOOKS.get(k).applyAsInt(walked(new SharesComing(), will, steps)), due);
            SharesComing used = new SharesComing();
            Picture.ofNow(walked(used, other, 0));
            Picture.ofNow(walked(used, third, 1));
            TALLY.due(call + ", other matters ahead", LOOKS.get(k).applyAsInt(walked(used, will, steps)), due);
        }
    }

    /** A step is a come or a give, whichever is due. */
    private static SharesComing walked(SharesComing x, String will, int steps) {
        Tally.tell(x, will);
        x.matter();
        for (int step = 0; step < steps; step++) {
            if (x.come(0) == SharesComing.NONE && !x.give(0)) {
                x.give(1);
            }
        }
        return x;
    }
}
