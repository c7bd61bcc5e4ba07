import java.util.Random;

/** Chance-made wills, walked through; every answer is held against the plain way (promises 5 to 23). */
public final class OracleTest {
    private static final Tally TALLY = new Tally("OracleTest");

    public static void main(String[] args) {
        for (int seed = 0; seed < Integer.getInteger("seeds", 260) && TALLY.isSound(); seed++) {
            walk(seed, seed % 20 == 0 ? 6 : seed % 5 == 0 ? 5 : 4);
        }
        sameObjectManyWills();
        TALLY.finish();
    }

    private static void walk(int seed, int mostDays) {
        Random r = new Random(seed);
        Plain p = Plain.random(r, mostDays, 2);
        walkThrough(Tally.of(p.text()), p, r, "seed " + seed);
    }

    private static void sameObjectManyWills() {
        Random r = new Random(77);
        SharesComing x = new SharesComing();
        for (int turn = 0; turn < 60 && TALLY.isSound(); turn++) {
            Plain p = Plain.random(r, 1 + turn % 4, 2);
            Tally.tell(x, p.text());
            TALLY.due("matter()", x.matter(), p.names.size());
            walkThrough(x, p, r, "turn " + turn);
        }
    }

    private static void walkThrough(SharesComing x, Plain p, Random r, String run) {
        Plain.Spot spot = p.first();
        Plain.Spot[] images = new Plain.Spot[4];
        for (int turn = 0; turn < 14; turn++) {
            compare(x, p, spot, r, run + " turn " + turn + " of " + p.text());
            int k = r.nextInt(6) - 1;
            if (r.nextInt(3) == 0) {
                TALLY.due(run + " image " + k, x.image(k), k >= 0 && k < 4);
                if (k >= 0 && k < 4) {
                    images[k] = spot;
                }
            }
            if (r.nextInt(5) == 0) {
                int back = r.nextInt(6) - 1;
                boolean has = back >= 0 && back < 4 && images[back] != null;
                TALLY.due(run + " on " + back, x.on(back), has);
                spot = has ? images[back] : spot;
            }
            spot = spot.waits >= 0 ? give(x, p, spot, r, run) : come(x, p, spot, r, run);
        }
    }

    private static Plain.Spot give(SharesComing x, Plain p, Plain.Spot spot, Random r, String run) {
        int to = r.nextInt(6) - 1;
        boolean may = p.mayGive(spot, to, p.hold);
        TALLY.due(run + " give " + to, x.give(to), may);
        return may ? p.give(spot, to) : spot;
    }

    private static Plain.Spot come(SharesComing x, Plain p, Plain.Spot spot, Random r, String run) {
        int alt = r.nextInt(5) - 1;
        boolean can = spot.day < p.days.size() && alt >= 0 && alt < p.days.get(spot.day).size();
        Plain.Spot next = can ? p.come(spot, alt) : spot;
        TALLY.due(run + " come " + alt, x.come(alt), can ? next.day : -1);
        TALLY.due(run + " give", spot.waits < 0 && next.waits < 0 && x.give(0), false);
        return next;
    }

    private static void compare(SharesComing x, Plain p, Plain.Spot spot, Random r, String run) {
        compareState(x, p, spot, run);
        for (int goal = 0; goal < 3; goal++) {
            compareGoal(x, p, spot, goal, run + " goal " + goal);
            compareRows(x, p, spot, goal, r, run + " goal " + goal);
        }
    }

    private static void compareState(SharesComing x, Plain p, Plain.Spot spot, String run) {
        int bits = 0;
        for (int i = 0; i < p.names.size(); i++) {
            bits |= spot.came[i] ? 1 << i : 0;
            TALLY.due(run + " heir 0", x.heir(i, 0), spot.came[i] ? 1 : 0);
            for (int s = 0; s < 3; s++) {
                TALLY.due(run + " heir worth", x.heir(i, 1 + s), p.worths.get(i)[s]);
                TALLY.due(run + " heir has", x.heir(i, 4 + s), spot.has[i][s]);
            }
            TALLY.due(run + " heir 7", x.heir(i, 7), p.value(i, spot.has[i]));
        }
        int[] counts = {p.names.size(), p.days.size(), spot.day, bits, spot.held(), spot.waits, p.hold, p.back, 0};
        for (int what = 0; what < counts.length; what++) {
            TALLY.due(run + " count " + what, x.count(what), counts[what]);
        }
        for (int d = 0; d < p.days.size(); d++) {
            for (int a = 0; a < p.days.get(d).size(); a++) {
                for (int what = 0; what < 3; what++) {
                    TALLY.due(run + " alt", x.alt(d, a, what), p.days.get(d).get(a)[what]);
                }
            }
        }
        for (int h = 0; h < 4; h++) {
            for (int s = 0; s < 3; s++) {
                TALLY.due(run + " paper", x.paper(h, s), p.paper(spot, h, s));
            }
        }
    }

    private static void compareGoal(SharesComing x, Plain p, Plain.Spot spot, int goal, String run) {
        boolean over = spot.day == p.days.size() && spot.waits < 0;
        TALLY.due(run + " reached", x.reached(goal), over ? p.end(spot, goal, p.back) : Plain.VOID);
        for (int m = 0; m < 2; m++) {
            boolean mean = m == 1;
            TALLY.due(run + " sure " + mean, x.sure(goal, mean), p.sure(spot, goal, mean));
            TALLY.due(run + " best " + mean, x.best(goal, mean), p.best(spot, goal, mean));
            for (int way = 0; way < 5; way++) {
                TALLY.due(run + " fare " + way + mean, x.fare(way, goal, mean), p.fare(spot, way, goal, mean));
            }
        }
        for (int k = 0; k < 7; k++) {
            TALLY.due(run + " proof " + k, x.proof(goal, k), p.proof(spot, goal, k));
        }
        TALLY.due(run + " mended 0", x.mended(goal, 0), p.mended(spot, goal, 0));
        TALLY.due(run + " mended 1", x.mended(goal, 1), p.mended(spot, goal, 1));
        if (p.days.size() - spot.day <= 4) {
            TALLY.due(run + " cost", x.cost(goal), p.cost(spot, goal));
        }
    }

    private static void compareRows(SharesComing x, Plain p, Plain.Spot spot, int goal, Random r, String run) {
        int left = p.days.size() - spot.day;
        for (int turn = 0; turn < 12; turn++) {
            int alts = 0;
            int gifts = 0;
            for (int k = 0; k < left; k++) {
                int alt = r.nextInt(p.days.get(spot.day + k).size() + (r.nextInt(9) == 0 ? 1 : 0));
                boolean thing = alt < p.days.get(spot.day + k).size() && p.days.get(spot.day + k).get(alt)[1] == 0;
                alts |= (alt & 3) << 2 * k;
                gifts |= (thing || r.nextInt(9) == 0 ? r.nextInt(4) : 0) << 2 * k;
            }
            if (r.nextInt(12) == 0) {
                alts |= 1 << 2 * left;
            }
            if (r.nextInt(12) == 0) {
                gifts |= 1 << 2 * left;
            }
            TALLY.due(run + " known " + alts, x.known(goal, alts), p.known(spot, goal, alts));
            TALLY.due(run + " judge " + alts + " " + gifts, x.judge(alts, gifts), p.judge(spot, alts, gifts));
            TALLY.due(run + " judged " + alts + " " + gifts, x.judged(goal, alts, gifts),
                p.judged(spot, goal, alts, gifts));
        }
    }
}
