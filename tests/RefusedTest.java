import java.util.ArrayList;
import java.util.List;
import java.util.function.Consumer;
import java.util.function.Function;

/** What is refused changes nothing: each refused call, in each kind of STATE, leaves all as it was before. */
public final class RefusedTest {
    private static final Tally TALLY = new Tally("RefusedTest");
    private static final int VOID = SharesComing.VOID;
    private static final int[] FAR = {Tally.LEAST, -1, 4, 5, 9, 16, 401, Tally.MOST};

    private static final String WILL = "heir a 10 5 1;late b 4 7 2;heir c 3 3 20;"
        + "day 6 thing 0,3 comes b,3 none;day 12 thing 1;day 4 thing 2,8 thing 0;day 6 comes b,6 none;hold 1;back 1;";
    private static final String SOUND = "heir z 1 1 1;late y 2 2 2;day 12 comes y;hold 2;";
    private static final String SPOILT = SOUND + "back 1;day 6 thing 2,6 none;hold 0;";

    /** How an object came to be as it is; it is made anew for each call that is tried. */
    private static final class Setting {
        final String name;
        final Consumer<SharesComing> steps;
        final List<String> calls = new ArrayList<>();
        final List<Function<SharesComing, Object>> tries = new ArrayList<>();
        final List<Object> dues = new ArrayList<>();

        Setting(String name, Consumer<SharesComing> steps) {
            this.name = name;
            this.steps = steps;
        }

        Setting refuses(String call, Function<SharesComing, Object> tried, Object due) {
            calls.add(call);
            tries.add(tried);
            dues.add(due);
            return this;
        }

        SharesComing make() {
            SharesComing x = new SharesComing();
            steps.accept(x);
            return x;
        }

        void test() {
            String before = Picture.ofAll(make());
            for (int k = 0; k < tries.size(); k++) {
                String call = name + ": " + calls.get(k);
                SharesComing x = make();
                Object answer = tries.get(k).apply(x);
                TALLY.due(call + " answered " + answer, answer.equals(dues.get(k)), true);
                TALLY.due(call + " leaves all", Picture.ofAll(x).equals(before), true);
            }
        }
    }

    public static void main(String[] args) {
        newObject().test();
        fullText().test();
        spoiltText().test();
        firstState().test();
        waiting().test();
        waitingWithHoldFull().test();
        allDaysOver().test();
        lookingChangesNothing();
        TALLY.finish();
    }

    private static Setting newObject() {
        Setting s = new Setting("new object", x -> { });
        refusedEverywhere(s);
        s.refuses("end 1", x -> x.end(1), false);
        s.refuses("matter", x -> x.matter(), -1);
        withoutMatter(s);
        return s;
    }

    private static Setting fullText() {
        Setting s = new Setting("full text", x -> Tally.tell(x, SOUND + " ".repeat(400 - SOUND.length())));
        refusedEverywhere(s);
        s.refuses("feed", x -> x.feed(-1, -1, -1, -1, -1), -1);
        s.refuses("end 401", x -> x.end(401), false);
        withoutMatter(s);
        return s;
    }

    private static Setting spoiltText() {
        Setting s = new Setting("spoilt text", x -> Tally.tell(x, SPOILT + " ".repeat(381 - SPOILT.length())));
        refusedEverywhere(s);
        s.refuses("matter", x -> x.matter(), -1);
        s.refuses("feed behind 381", x -> x.feed(0, 0, 0, 0, 0), -1);
        s.refuses("end 382", x -> x.end(382), false);
        withoutMatter(s);
        return s;
    }

    private static Setting firstState() {
        Setting s = new Setting("first state", x -> {
            start(x);
            x.image(1);
            Tally.tell(x, SPOILT);
        });
        refusedEverywhere(s);
        s.refuses("matter", x -> x.matter(), -1);
        s.refuses("come 3", x -> x.come(3), -1);
        s.refuses("give 0", x -> x.give(0), false);
        s.refuses("give 3", x -> x.give(3), false);
        s.refuses("on 0", x -> x.on(0), false);
        s.refuses("on 3", x -> x.on(3), false);
        s.refuses("end beyond", x -> x.end(SPOILT.length() + 1), false);
        return s;
    }

    private static Setting waiting() {
        Setting s = new Setting("it waits", x -> {
            start(x);
            x.image(0);
            x.come(0);
            x.image(2);
            Tally.tell(x, SPOILT);
        });
        refusedEverywhere(s);
        s.refuses("matter", x -> x.matter(), -1);
        for (int alt = 0; alt < 3; alt++) {
            int which = alt;
            s.refuses("come " + alt, x -> x.come(which), -1);
        }
        s.refuses("give to b", x -> x.give(1), false);
        s.refuses("on 1", x -> x.on(1), false);
        s.refuses("on 3", x -> x.on(3), false);
        return s;
    }

    private static Setting waitingWithHoldFull() {
        Setting s = new Setting("it waits, and one is held", x -> {
            start(x);
            x.come(0);
            x.give(3);
            x.image(3);
            x.come(0);
            Tally.tell(x, " ".repeat(400));
        });
        refusedEverywhere(s);
        s.refuses("matter", x -> x.matter(), -1);
        s.refuses("feed", x -> x.feed(1, 2, 3, 4, 5), -1);
        s.refuses("come 0", x -> x.come(0), -1);
        s.refuses("give to b", x -> x.give(1), false);
        s.refuses("hold one more", x -> x.give(3), false);
        s.refuses("on 0", x -> x.on(0), false);
        return s;
    }

    private static Setting allDaysOver() {
        Setting s = new Setting("all days over", x -> {
            start(x);
            x.come(1);
            x.come(0);
            x.give(1);
            x.come(1);
            x.give(3);
            x.image(0);
            x.come(0);
            Tally.tell(x, SOUND.substring(0, 30));
        });
        refusedEverywhere(s);
        s.refuses("matter", x -> x.matter(), -1);
        for (int alt = 0; alt < 3; alt++) {
            int which = alt;
            s.refuses("come " + alt, x -> x.come(which), -1);
        }
        for (int to = 0; to < 4; to++) {
            int whom = to;
            s.refuses("give " + to, x -> x.give(whom), false);
        }
        s.refuses("on 1", x -> x.on(1), false);
        return s;
    }

    private static void start(SharesComing x) {
        Tally.tell(x, WILL);
        x.matter();
    }

    private static void refusedEverywhere(Setting s) {
        for (int far : FAR) {
            s.refuses("come " + far, x -> x.come(far), -1);
            s.refuses("give " + far, x -> x.give(far), false);
            s.refuses("image " + far, x -> x.image(far), false);
            s.refuses("on " + far, x -> x.on(far), false);
            s.refuses("reached " + far, x -> x.reached(far), VOID);
            s.refuses("sure " + far, x -> x.sure(far, true), VOID);
            s.refuses("best " + far, x -> x.best(far, true), -1);
            s.refuses("proof 0, " + far, x -> x.proof(0, far), -1);
            s.refuses("proof " + far, x -> x.proof(far, 0), -1);
            s.refuses("known " + far, x -> x.known(far, 0), VOID);
            s.refuses("cost " + far, x -> x.cost(far), VOID);
            s.refuses("fare 0, " + far, x -> x.fare(0, far, false), VOID);
            s.refuses("mended " + far, x -> x.mended(far, 0), -1);
            s.refuses("mended 0, " + far, x -> x.mended(0, far), -1);
            s.refuses("paper " + far, x -> x.paper(far, 0), -1);
            s.refuses("paper 0, " + far, x -> x.paper(0, far), -1);
            s.refuses("judged " + far, x -> x.judged(far, 0, 0), VOID);
            s.refuses("heir " + far, x -> x.heir(far, 0), -1);
            s.refuses("alt 0, " + far, x -> x.alt(0, far, 0), -1);
        }
        s.refuses("end -1", x -> x.end(-1), false);
        s.refuses("end least", x -> x.end(Tally.LEAST), false);
        s.refuses("end most", x -> x.end(Tally.MOST), false);
        s.refuses("end 402", x -> x.end(402), false);
        s.refuses("known of row -1", x -> x.known(0, -1), VOID);
        s.refuses("judge of row -1", x -> x.judge(-1, 0), 9);
        s.refuses("judge of gifts -1", x -> x.judge(0, -1), 9);
        s.refuses("fare of way 5", x -> x.fare(5, 0, false), VOID);
        s.refuses("fare of way -1", x -> x.fare(-1, 0, false), VOID);
        s.refuses("count 9", x -> x.count(9), -1);
        s.refuses("count -1", x -> x.count(-1), -1);
    }

    private static void withoutMatter(Setting s) {
        for (int k = 0; k < 4; k++) {
            int which = k;
            s.refuses("come " + k, x -> x.come(which), -1);
            s.refuses("give " + k, x -> x.give(which), false);
            s.refuses("image " + k, x -> x.image(which), false);
            s.refuses("on " + k, x -> x.on(which), false);
            s.refuses("sure " + k, x -> x.sure(which, false), VOID);
            s.refuses("judge " + k, x -> x.judge(which, 0), 9);
        }
    }

    /** Calls that only answer, in every STATE of a walk: asked twice they answer the same. */
    private static void lookingChangesNothing() {
        int[][] walk = {{0, 2}, {0, 3}, {1, 0}, {0, 9}};
        SharesComing x = new SharesComing();
        Tally.tell(x, WILL);
        TALLY.due("a text alone", Picture.ofNow(x), Picture.ofNow(x));
        x.matter();
        Tally.tell(x, SPOILT);
        for (int[] day : walk) {
            TALLY.due("before a day", Picture.ofNow(x), Picture.ofNow(x));
            x.come(day[0]);
            TALLY.due("behind a day", Picture.ofNow(x), Picture.ofNow(x));
            x.give(day[1]);
        }
        TALLY.due("at the end", Picture.ofNow(x), Picture.ofNow(x));
    }
}
