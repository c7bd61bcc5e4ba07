import java.util.ArrayList;
import java.util.Arrays;
import java.util.HashMap;
import java.util.List;
import java.util.Map;
import java.util.Random;

/** The document's words done in the plainest way, to hold the program's answers against. */
final class Plain {
    static final int VOID = Integer.MIN_VALUE;

    final List<String> names = new ArrayList<>();
    final List<int[]> worths = new ArrayList<>();
    final List<Boolean> late = new ArrayList<>();
    final List<List<int[]>> days = new ArrayList<>();
    int hold;
    int back;

    /** has[3] is what is held. */
    static final class Spot {
        int day;
        int waits = -1;
        boolean[] came;
        int[][] has = new int[4][3];

        Spot copy() {
            Spot other = new Spot();
            other.day = day;
            other.waits = waits;
            other.came = came.clone();
            for (int i = 0; i < 4; i++) {
                other.has[i] = has[i].clone();
            }
            return other;
        }

        String key() {
            return day + " " + waits + Arrays.toString(came) + Arrays.deepToString(has);
        }

        int held() {
            return has[3][0] + has[3][1] + has[3][2];
        }
    }

    static Plain random(Random r, int mostDays, int mostHold) {
        Plain p = new Plain();
        int heirs = 1 + r.nextInt(3);
        int range = r.nextInt(4) == 0 ? 3 : 21;
        int early = r.nextInt(heirs);
        for (int i = 0; i < heirs; i++) {
            p.names.add(new String[] {"ann", "b", "cleopatr"}[i]);
            p.worths.add(new int[] {r.nextInt(range), r.nextInt(range), r.nextInt(range)});
            p.late.add(i != early && r.nextInt(3) > 0);
        }
        int days = r.nextInt(mostDays + 1);
        for (int d = 0; d < days; d++) {
            p.days.add(p.randomDay(r));
        }
        p.hold = r.nextInt(mostHold + 1);
        p.back = r.nextInt(2);
        return p;
    }

    private List<int[]> randomDay(Random r) {
        int alts = 1 + r.nextInt(3);
        int[] cuts = alts == 1 ? new int[] {12} : alts == 2 ? two(r) : three(r);
        List<int[]> day = new ArrayList<>();
        for (int c : cuts) {
            int kind = r.nextInt(8) == 0 ? 2 : r.nextInt(3) == 0 ? 1 : 0;
            int who = r.nextInt(names.size());
            if (kind == 1 && !late.get(who)) {
                kind = 0;
            }
            day.add(new int[] {c, kind, kind == 0 ? r.nextInt(3) : kind == 1 ? who : -1});
        }
        return day;
    }

    private static int[] two(Random r) {
        int a = 1 + r.nextInt(11);
        return new int[] {a, 12 - a};
    }

    private static int[] three(Random r) {
        int a = 1 + r.nextInt(10);
        int b = 1 + r.nextInt(11 - a);
        return new int[] {a, b, 12 - a - b};
    }

    String text() {
        StringBuilder s = new StringBuilder();
        for (int i = 0; i < names.size(); i++) {
            int[] w = worths.get(i);
            s.append(late.get(i) ? "late " : "heir ").append(names.get(i)).append(' ');
            s.append(w[0]).append(' ').append(w[1]).append(' ').append(w[2]).append(';');
        }
        for (List<int[]> day : days) {
            s.append("\nday");
            for (int i = 0; i < day.size(); i++) {
                int[] alt = day.get(i);
                s.append(i == 0 ? "" : ",").append(alt[0]);
                s.append(alt[1] == 0 ? "thing" + alt[2] : alt[1] == 1 ? "comes " + names.get(alt[2]) : "none");
            }
            s.append(';');
        }
        if (hold > 0) {
            s.append("hold ").append(hold).append(';');
        }
        if (back > 0) {
            s.append("back ").append(back).append(';');
        }
        return s.toString();
    }

    Spot first() {
        Spot spot = new Spot();
        spot.came = new boolean[names.size()];
        for (int i = 0; i < names.size(); i++) {
            spot.came[i] = !late.get(i);
        }
        return spot;
    }

    Spot come(Spot spot, int alt) {
        int[] a = days.get(spot.day).get(alt);
        Spot next = spot.copy();
        next.day++;
        if (a[1] == 0) {
            next.waits = a[2];
        }
        if (a[1] == 1) {
            next.came[a[2]] = true;
        }
        return next;
    }

    boolean mayGive(Spot spot, int to, int holdable) {
        if (spot.waits < 0 || to < 0 || to > 3) {
            return false;
        }
        return to == 3 ? spot.held() < holdable : to < names.size() && spot.came[to];
    }

    Spot give(Spot spot, int to) {
        Spot next = spot.copy();
        next.has[to][next.waits]++;
        next.waits = -1;
        return next;
    }

    int value(int judge, int[] things) {
        int[] w = worths.get(judge);
        return w[0] * things[0] + w[1] * things[1] + w[2] * things[2];
    }

    int goal(Spot spot, int goal) {
        int n = names.size();
        int came = 0;
        for (boolean b : spot.came) {
            came += b ? 1 : 0;
        }
        int least = Integer.MAX_VALUE;
        int most = 0;
        int sum = 0;
        for (int i = 0; i < n; i++) {
            if (!spot.came[i]) {
                continue;
            }
            int own = value(i, spot.has[i]);
            int all = 0;
            for (int j = 0; j < n; j++) {
                if (!spot.came[j]) {
                    continue;
                }
                all += value(i, spot.has[j]);
                if (i != j) {
                    most = Math.max(most, fewestOut(i, own, spot.has[j]));
                }
            }
            least = Math.min(least, all == 0 ? 1000 : own * came * 1000 / all);
            sum += own;
        }
        return goal == 0 ? least : goal == 1 ? -most : sum;
    }

    private int fewestOut(int one, int own, int[] things) {
        int fewest = Integer.MAX_VALUE;
        for (int a = 0; a <= things[0]; a++) {
            for (int b = 0; b <= things[1]; b++) {
                for (int c = 0; c <= things[2]; c++) {
                    if (value(one, new int[] {things[0] - a, things[1] - b, things[2] - c}) <= own) {
                        fewest = Math.min(fewest, a + b + c);
                    }
                }
            }
        }
        return fewest;
    }

    private final Map<String, Long> memo = new HashMap<>();

    int end(Spot spot, int goal, int backs) {
        String key = "end" + goal + " " + backs + spot.key();
        Long had = memo.get(key);
        if (had == null) {
            had = (long) findEnd(spot, goal, backs);
            memo.put(key, had);
        }
        return (int) (long) had;
    }

    private int findEnd(Spot spot, int goal, int backs) {
        for (int s = 0; s < 3; s++) {
            if (spot.has[3][s] > 0) {
                int best = Integer.MIN_VALUE;
                for (int to = 0; to < names.size(); to++) {
                    if (spot.came[to]) {
                        best = Math.max(best, end(moved(spot, s, 3, to), goal, backs));
                    }
                }
                return best;
            }
        }
        int best = goal(spot, goal);
        for (int s = 0; backs > 0 && s < 3; s++) {
            for (int from = 0; from < names.size(); from++) {
                for (int to = 0; to < names.size(); to++) {
                    if (from != to && spot.came[to] && spot.has[from][s] > 0) {
                        best = Math.max(best, end(moved(spot, s, from, to), goal, backs - 1));
                    }
                }
            }
        }
        return best;
    }

    private static Spot moved(Spot spot, int sort, int from, int to) {
        Spot next = spot.copy();
        next.has[from][sort]--;
        next.has[to][sort]++;
        return next;
    }

    /** Times 12 for each day to come, if it is the mean. */
    long worth(Spot spot, int goal, boolean mean, int holdable, int backs) {
        String key = "worth" + goal + mean + holdable + " " + backs + spot.key();
        Long had = memo.get(key);
        if (had == null) {
            had = findWorth(spot, goal, mean, holdable, backs);
            memo.put(key, had);
        }
        return had;
    }

    private long findWorth(Spot spot, int goal, boolean mean, int holdable, int backs) {
        if (spot.waits >= 0) {
            long best = Long.MIN_VALUE;
            for (int to = 0; to < 4; to++) {
                if (mayGive(spot, to, holdable)) {
                    best = Math.max(best, worth(give(spot, to), goal, mean, holdable, backs));
                }
            }
            return best;
        }
        if (spot.day == days.size()) {
            return end(spot, goal, backs);
        }
        long sum = 0;
        long least = Long.MAX_VALUE;
        List<int[]> alts = days.get(spot.day);
        for (int a = 0; a < alts.size(); a++) {
            long worth = worth(come(spot, a), goal, mean, holdable, backs);
            sum += alts.get(a)[0] * worth;
            least = Math.min(least, worth);
        }
        return mean ? sum : least;
    }

    private int cut(Spot spot, long sum) {
        long parts = 1;
        for (int d = spot.day; d < days.size(); d++) {
            parts *= 12;
        }
        return (int) (sum * 1000 / parts);
    }

    int sure(Spot spot, int goal, boolean mean) {
        long worth = worth(spot, goal, mean, hold, back);
        return mean ? cut(spot, worth) : (int) worth;
    }

    int best(Spot spot, int goal, boolean mean) {
        if (spot.waits < 0) {
            return -1;
        }
        for (int to = 0; to < 4; to++) {
            if (mayGive(spot, to, hold)
                && worth(give(spot, to), goal, mean, hold, back) == worth(spot, goal, mean, hold, back)) {
                return to;
            }
        }
        return -1;
    }

    int proof(Spot spot, int goal, int k) {
        if (spot.waits >= 0 || k < 0 || k >= days.size() - spot.day) {
            return -1;
        }
        int worst = -1;
        for (int a = 0; a < days.get(spot.day).size(); a++) {
            if (worst < 0 || sure(come(spot, a), goal, false) < sure(come(spot, worst), goal, false)) {
                worst = a;
            }
        }
        Spot next = come(spot, worst);
        int gift = 9;
        if (next.waits >= 0) {
            gift = best(next, goal, false);
            next = give(next, gift);
        }
        return k == 0 ? worst * 10 + gift : proof(next, goal, k - 1);
    }

    boolean rowCanBe(Spot spot, int row) {
        if (row < 0) {
            return false;
        }
        int rest = row;
        for (int d = spot.day; d < days.size(); d++) {
            if (rest % 4 >= days.get(d).size()) {
                return false;
            }
            rest /= 4;
        }
        return rest == 0;
    }

    int known(Spot spot, int goal, int row) {
        if (spot.waits >= 0 || !rowCanBe(spot, row)) {
            return VOID;
        }
        return greatest(spot, goal, row);
    }

    private int greatest(Spot spot, int goal, int row) {
        if (spot.waits >= 0) {
            int best = Integer.MIN_VALUE;
            for (int to = 0; to < 4; to++) {
                if (mayGive(spot, to, hold)) {
                    best = Math.max(best, greatest(give(spot, to), goal, row));
                }
            }
            return best;
        }
        return spot.day == days.size() ? end(spot, goal, back) : greatest(come(spot, row % 4), goal, row / 4);
    }

    int cost(Spot spot, int goal) {
        if (spot.waits >= 0) {
            return VOID;
        }
        int least = Integer.MAX_VALUE;
        for (int row = 0; row < 1 << 2 * (days.size() - spot.day); row++) {
            if (rowCanBe(spot, row)) {
                least = Math.min(least, greatest(spot, goal, row));
            }
        }
        return least - sure(spot, goal, false);
    }

    int fare(Spot spot, int way, int goal, boolean mean) {
        if (spot.waits >= 0) {
            return VOID;
        }
        long worth = byWay(spot, way, goal, mean);
        return mean ? cut(spot, worth) : (int) worth;
    }

    private long byWay(Spot spot, int way, int goal, boolean mean) {
        if (spot.waits >= 0) {
            return byWay(give(spot, chosen(spot, way)), way, goal, mean);
        }
        if (spot.day == days.size()) {
            return end(spot, goal, back);
        }
        long sum = 0;
        long least = Long.MAX_VALUE;
        for (int a = 0; a < days.get(spot.day).size(); a++) {
            long worth = byWay(come(spot, a), way, goal, mean);
            sum += days.get(spot.day).get(a)[0] * worth;
            least = Math.min(least, worth);
        }
        return mean ? sum : least;
    }

    private int chosen(Spot spot, int way) {
        if (way == 4) {
            return best(spot, 0, false);
        }
        if (way == 3 && mayGive(spot, 3, hold)) {
            return 3;
        }
        int chosen = -1;
        int least = 0;
        for (int i = 0; i < names.size(); i++) {
            if (spot.came[i]) {
                int[] h = spot.has[i];
                int rank = way == 1 ? h[0] + h[1] + h[2] : way == 2 ? value(i, h) : -worths.get(i)[spot.waits];
                if (chosen < 0 || rank < least) {
                    chosen = i;
                    least = rank;
                }
            }
        }
        return chosen;
    }

    int mended(Spot spot, int goal, int what) {
        long more = worth(spot, goal, false, what == 0 ? hold + 1 : hold, what == 1 ? back + 1 : back);
        return (int) (more - worth(spot, goal, false, hold, back));
    }

    int paper(Spot spot, int heir, int sort) {
        if (heir >= names.size()) {
            return -1;
        }
        int parts = 0;
        for (int d = spot.day; d < days.size(); d++) {
            for (int[] alt : days.get(d)) {
                parts += alt[1] == 0 && alt[2] == sort ? alt[0] : 0;
            }
        }
        return parts * worths.get(heir)[sort];
    }

    int judge(Spot spot, int alts, int gifts) {
        if (spot.waits >= 0 || !rowCanBe(spot, alts) || gifts < 0 || gifts >= 1 << 2 * (days.size() - spot.day)) {
            return 9;
        }
        Spot at = spot;
        for (int k = 0; at.day < days.size(); k++) {
            int gift = gifts / (1 << 2 * k) % 4;
            at = come(at, alts / (1 << 2 * k) % 4);
            if (at.waits < 0 ? gift != 0 : !mayGive(at, gift, hold)) {
                return k;
            }
            at = at.waits < 0 ? at : give(at, gift);
        }
        return -1;
    }

    int judged(Spot spot, int goal, int alts, int gifts) {
        if (judge(spot, alts, gifts) != -1) {
            return VOID;
        }
        Spot at = spot;
        for (int k = 0; at.day < days.size(); k++) {
            at = come(at, alts / (1 << 2 * k) % 4);
            at = at.waits < 0 ? at : give(at, gifts / (1 << 2 * k) % 4);
        }
        return end(at, goal, back);
    }
}
