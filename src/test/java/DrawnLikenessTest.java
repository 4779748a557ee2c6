import java.util.ArrayList;
import java.util.Arrays;
import java.util.List;

/** Drawn houses: likeness, partings and chance are what the document makes of state() and are() of the same house. */
public final class DrawnLikenessTest {
    private static final Ledger LEDGER = new Ledger();
    private static final int UNKNOWN = 3;

    private final Drawn house;
    private final String name;
    private final int[][] are;
    private final boolean late;
    private final int[][] states;
    private final int[] parents;

    public static void main(String[] args) {
        for (int seed = 1; seed <= 90; seed++) {
            Drawn house = new Drawn(seed, 1 + seed % 6, 5 + seed % 8);
            int[][] are = are(house);
            for (boolean late : new boolean[] {false, true}) {
                String name = "seed " + seed + (late ? " late" : "");
                DrawnLikenessTest test = new DrawnLikenessTest(house, name, are, late);
                test.likeness();
                test.worths();
                test.partings();
                test.groups();
                test.chance();
            }
        }
        LEDGER.end();
    }

    private DrawnLikenessTest(Drawn house, String name, int[][] are, boolean late) {
        this.house = house;
        this.name = name;
        this.are = are;
        this.late = late;
        states = new int[house.deeds][house.marks];
        for (int deed = 0; deed < house.deeds; deed++) {
            for (int mark = 0; mark < house.marks && !house.gone[deed]; mark++) {
                states[deed][mark] = house.ask().state(deed, mark, late);
            }
        }
        parents = parents();
    }

    /** The same house with one more STATE; its THE TREE is worked anew. */
    private DrawnLikenessTest(DrawnLikenessTest other, int deed, int mark, int answer) {
        house = other.house;
        name = other.name;
        are = other.are;
        late = other.late;
        states = new int[house.deeds][];
        for (int d = 0; d < house.deeds; d++) {
            states[d] = other.states[d].clone();
        }
        states[deed][mark] = answer;
        parents = parents();
    }

    private static int[][] are(Drawn house) {
        int[][] are = new int[house.deeds][house.deeds];
        for (int a = 0; a < house.deeds; a++) {
            for (int b = 0; b < house.deeds; b++) {
                if (a != b && !house.gone[a] && !house.gone[b]) {
                    are[a][b] = house.ask().are(a, b);
                }
            }
        }
        return are;
    }

    private void due(String what, Ledger.Call call, Object want) {
        LEDGER.due(name + ": " + what, house.ask(), call, want);
    }

    // ---- what likeness is worth

    private static int outcome(int one, int other) {
        return one % 3 == 0 || other % 3 == 0 ? UNKNOWN : one + other - 2;
    }

    private int outcome(int[][] by, int mark, int a, int b) {
        return outcome(by[a][mark], by[b][mark]);
    }

    /** COUNTS of a MARK with an OUTCOME (3: any of 0 to 2), by all pairs or by those with an OUTCOME of its PARENT. */
    private int count(int mark, boolean one, int outcome, int above) {
        int many = 0;
        for (int a = 0; a < house.deeds; a++) {
            for (int b = a + 1; b < house.deeds; b++) {
                if (house.counts[a] && house.counts[b] && are[a][b] == (one ? 1 : 2)) {
                    int is = outcome(states, mark, a, b);
                    boolean fits = outcome == UNKNOWN ? is != UNKNOWN : is == outcome;
                    many += fits && (above == UNKNOWN || outcome(states, parents[mark], a, b) == above) ? 1 : 0;
                }
            }
        }
        return many;
    }

    private void likeness() {
        LEDGER.promise("18 to 21");
        for (int mark = 0; mark < house.marks; mark++) {
            int m = mark;
            for (int k = 0; k < 8; k++) {
                boolean one = k % 2 == 0;
                int o = k / 2;
                int n = count(mark, one, o, UNKNOWN);
                due("count of " + m + ", " + one + ", " + o, x -> x.count(m, one, o, late), n);
                if (o < UNKNOWN) {
                    int all = count(mark, one, UNKNOWN, UNKNOWN) + 2;
                    due("span of " + m + ", " + one + ", " + o, x -> x.span(m, one, o, late, false), 1000 * n / all);
                    due("high span of " + m + ", " + one + ", " + o, x -> x.span(m, one, o, late, true),
                            (1000 * (n + 2) + all - 1) / all);
                }
            }
        }
        tree();
    }

    private int weight(int m, int n) {
        int[] many = new int[4];
        for (int deed = 0; deed < house.deeds; deed++) {
            int one = states[deed][m];
            int other = states[deed][n];
            if (house.counts[deed] && one % 3 > 0 && other % 3 > 0) {
                many[2 * (2 - one) + 2 - other]++;
            }
        }
        return Math.abs(many[0] * many[3] - many[1] * many[2]);
    }

    private void tree() {
        for (int m = 0; m < house.marks; m++) {
            for (int n = 0; n < house.marks; n++) {
                int one = m;
                int other = n;
                if (m != n) {
                    due("weight of " + m + " and " + n, x -> x.weight(one, other, late), weight(m, n));
                }
            }
            int mark = m;
            due("parent of " + m, x -> x.parent(mark, late), parents[m]);
        }
    }

    /** Takes pairs from the greatest WEIGHT on, and hangs each MARK on the next one on its way to the least. */
    private int[] parents() {
        List<int[]> pairs = new ArrayList<>();
        for (int m = 0; m < house.marks; m++) {
            for (int n = m + 1; n < house.marks; n++) {
                pairs.add(new int[] {-weight(m, n), m, n});
            }
        }
        pairs.sort(Arrays::compare);
        boolean[][] taken = new boolean[house.marks][house.marks];
        for (int[] pair : pairs) {
            if (pair[0] < 0 && way(taken, pair[1], pair[2], -1) < 0) {
                taken[pair[1]][pair[2]] = true;
                taken[pair[2]][pair[1]] = true;
            }
        }
        int[] found = new int[house.marks];
        for (int mark = 0; mark < house.marks; mark++) {
            int root = 0;
            while (root < mark && way(taken, mark, root, -1) < 0) {
                root++;
            }
            found[mark] = root == mark ? -1 : way(taken, mark, root, -1);
        }
        return found;
    }

    /** The next MARK on the way from one to another one, not back; -1 without a way. */
    private static int way(boolean[][] taken, int at, int to, int back) {
        for (int next = 0; next < taken.length; next++) {
            if (next != back && taken[at][next] && (next == to || way(taken, next, to, at) >= 0)) {
                return next;
            }
        }
        return -1;
    }

    private static int log(int v) {
        int b = 31 - Integer.numberOfLeadingZeros(v);
        return 64 * b + Math.floorDiv(64 * (v - (1 << b)), 1 << b);
    }

    /** WORTH of a MARK for two DEEDS with STATES that may be others than those that are counted. */
    private int worth(int[][] seen, int a, int b, int mark) {
        int o = outcome(seen, mark, a, b);
        if (o == UNKNOWN) {
            return 0;
        }
        int above = parents[mark] < 0 ? UNKNOWN : outcome(seen, parents[mark], a, b);
        return log(count(mark, true, o, above) + 1) - log(count(mark, true, UNKNOWN, above) + 3)
                - log(count(mark, false, o, above) + 1) + log(count(mark, false, UNKNOWN, above) + 3);
    }

    private int worth(int[][] seen, int a, int b) {
        int all = 0;
        for (int mark = 0; mark < house.marks; mark++) {
            all += worth(seen, a, b, mark);
        }
        return all;
    }

    private void worths() {
        LEDGER.promise("22, 23, 29, 41");
        int bound = 0;
        for (int a = 0; a < house.deeds; a++) {
            int[] others = new int[3];
            for (int b = 0; b < house.deeds; b++) {
                int one = a;
                int other = b;
                if (a != b && !house.gone[a] && !house.gone[b]) {
                    int worth = worth(states, a, b);
                    due("worth of " + a + " and " + b, x -> x.worth(one, other, late), worth);
                    int mark = house.random.nextInt(house.marks);
                    due(mark + " by " + a + " and " + b, x -> x.by(one, other, mark, late), worth(states, a, b, mark));
                    boolean both = house.stands[a] && house.stands[b];
                    bound += both && a < b && are[a][b] != 2 && worth > 0 ? worth : 0;
                    others[0] += house.stands[b] && are[a][b] == 2 ? 1 : 0;
                    others[1] += house.stands[b] && are[a][b] == 2 && worth >= 20 ? 1 : 0;
                }
            }
            int d = a;
            if (!house.gone[a]) {
                due("others of " + a, x -> x.others(d, 7, late, true), others[0]);
                due("others of " + a + " worth 20", x -> x.others(d, 20, late, false), others[1]);
            }
        }
        due("bound", x -> x.bound(late), bound);
    }

    // ---- partings

    /** A row of numbers of parts, with its WORTH. */
    private record Parting(int[] row, int worth) { }

    private List<Parting> partings(List<Integer> set, int[][] by) {
        List<Parting> found = new ArrayList<>();
        part(set, by, new int[set.size()], 0, 0, found);
        return found;
    }

    private void part(List<Integer> set, int[][] worths, int[] row, int k, int parts, List<Parting> found) {
        if (k == row.length) {
            int worth = 0;
            for (int i = 0; i < k; i++) {
                for (int j = 0; j < i; j++) {
                    boolean together = row[i] == row[j];
                    int is = are[set.get(i)][set.get(j)];
                    if (together && is == 2 || !together && is == 1) {
                        return;
                    }
                    worth += together ? worths[set.get(i)][set.get(j)] : 0;
                }
            }
            found.add(new Parting(row.clone(), worth));
            return;
        }
        for (int p = 0; p <= parts; p++) {
            row[k] = p;
            part(set, worths, row, k + 1, Math.max(parts, p + 1), found);
        }
    }

    private static Parting best(List<Parting> all) {
        Parting best = all.get(0);
        for (Parting one : all) {
            best = one.worth > best.worth ? one : best;
        }
        return best;
    }

    private static List<Parting> near(List<Parting> all, int t) {
        int least = best(all).worth - t;
        return all.stream().filter(one -> one.worth >= least).toList();
    }

    private static int sure(List<Parting> near, int i, int j) {
        long together = near.stream().filter(one -> one.row[i] == one.row[j]).count();
        return together == near.size() ? 1 : together == 0 ? 2 : 0;
    }

    private int[][] table(int[][] seen) {
        int[][] worths = new int[house.deeds][house.deeds];
        for (int a : house.standing()) {
            for (int b : house.standing()) {
                worths[a][b] = a == b ? 0 : worth(seen, a, b);
            }
        }
        return worths;
    }

    private void partings() {
        int[][] worths = table(states);
        for (int most = 2; most <= 7; most++) {
            List<Integer> members = house.some(most);
            if (members.size() < 2) {
                return;
            }
            long set = Drawn.set(members);
            List<Parting> all = partings(members, worths);
            LEDGER.promise("24 to 27");
            if (all.isEmpty()) {
                due("best of " + members, x -> x.best(set, late), "IllegalStateException");
                continue;
            }
            Parting best = best(all);
            due("best of " + members, x -> x.best(set, late), best.worth);
            for (int deed = -1; deed <= house.deeds; deed++) {
                int d = deed;
                int part = members.contains(deed) ? best.row[members.indexOf(deed)] : -1;
                due("part of " + deed + " of " + members, x -> x.part(set, late, d), part);
            }
            int far = best.worth - all.get(house.random.nextInt(all.size())).worth;
            for (int t : new int[] {0, far, Math.max(0, far - 1), 1000000}) {
                sure(members, near(all, t), t);
            }
            check(members, worths);
        }
    }

    private void sure(List<Integer> members, List<Parting> near, int t) {
        long set = Drawn.set(members);
        due("near " + members + " by " + t, x -> x.near(set, late, t), near.size());
        for (int i = 0; i < members.size(); i++) {
            int j = (i + 1 + house.random.nextInt(members.size() - 1)) % members.size();
            int a = members.get(i);
            int b = members.get(j);
            due(a + " and " + b + " of " + members + " by " + t, x -> x.sure(set, late, t, a, b), sure(near, i, j));
        }
    }

    /** A TRAY with all WORTHS, with one of them wrong, and with one less. */
    private void check(List<Integer> members, int[][] worths) {
        LEDGER.promise("52");
        long set = Drawn.set(members);
        List<Integer> row = new ArrayList<>();
        for (int a : members) {
            for (int b : members) {
                if (a < b) {
                    row.add(worths[a][b]);
                }
            }
        }
        int many = row.size();
        int wrong = house.random.nextInt(many);
        OneHand x = house.fresh();
        x.tray(1, 2, many);
        for (int k = 0; k < many; k++) {
            x.write(1, k, row.get(k));
        }
        LEDGER.due(name + ": all of " + members, x, y -> y.check(set, late, 1), -1);
        x.write(1, wrong, row.get(wrong) + 1);
        LEDGER.due(name + ": one wrong of " + members, x, y -> y.check(set, late, 1), wrong);
        x.tray(2, 2, wrong);
        for (int k = 0; k < wrong; k++) {
            x.write(2, k, row.get(k));
        }
        LEDGER.due(name + ": the first " + wrong + " of " + members, x, y -> y.check(set, late, 2), -3 - wrong);
    }

    // ---- groups

    private void groups() {
        LEDGER.promise("28");
        int[] heads = new int[house.deeds];
        for (int deed = 0; deed < house.deeds; deed++) {
            heads[deed] = house.stands[deed] ? deed : -1;
        }
        int[][] worths = table(states);
        boolean goes = true;
        while (goes) {
            goes = join(heads, worths);
        }
        for (int deed : house.standing()) {
            due("joined of " + deed, x -> x.joined(deed, late), heads[deed]);
            stopped(heads, deed);
        }
    }

    /** Joins the two groups of which WORTH of all pairs is greatest, if it is above 0 and no pair is BARRED. */
    private boolean join(int[] heads, int[][] worths) {
        int most = 0;
        int[] two = null;
        for (int a = 0; a < heads.length; a++) {
            for (int b = a + 1; b < heads.length; b++) {
                if (heads[a] == a && heads[b] == b) {
                    int together = 0;
                    boolean barred = false;
                    for (int i = 0; i < heads.length; i++) {
                        for (int j = 0; j < heads.length; j++) {
                            together += heads[i] == a && heads[j] == b ? worths[i][j] : 0;
                            barred |= heads[i] == a && heads[j] == b && are[i][j] == 2;
                        }
                    }
                    if (!barred && together > most) {
                        most = together;
                        two = new int[] {a, b};
                    }
                }
            }
        }
        for (int i = 0; two != null && i < heads.length; i++) {
            heads[i] = heads[i] == two[1] ? two[0] : heads[i];
        }
        return two != null;
    }

    private void stopped(int[] heads, int deed) {
        LEDGER.promise("37");
        int latest = 0;
        for (int other = 0; other < heads.length; other++) {
            latest = heads[other] == heads[deed] ? Math.max(latest, house.from[other]) : latest;
        }
        int[][] steps = house.steps();
        int longest = 0;
        for (int[] step : steps) {
            longest = Math.max(longest, house.from[step[1]] - house.from[step[0]]);
        }
        boolean due = steps.length > 0 && house.now - latest > longest;
        due("stopped of " + deed, x -> x.stopped(deed, late), due);
        int left = longest - (house.now - latest);
        if (steps.length > 0 && left >= 0) {
            OneHand x = house.fresh();
            x.go(Math.max(1, left));
            LEDGER.due(name + ": stopped of " + deed + " just not", x, y -> y.stopped(deed, late), left == 0);
            x.go(1);
            LEDGER.due(name + ": stopped of " + deed + " just so", x, y -> y.stopped(deed, late), true);
        }
    }

    // ---- looks, chance

    private void chance() {
        for (int most = 2; most <= 5; most++) {
            List<Integer> members = house.some(most);
            if (members.size() > 1 && !partings(members, table(states)).isEmpty()) {
                look(members, 0);
                look(members, 1 + house.random.nextInt(200));
            }
        }
        for (int deed : house.standing()) {
            lots(deed);
        }
    }

    private void look(List<Integer> members, int t) {
        LEDGER.promise("40");
        int[] best = {-1, -1, -1};
        for (int deed : members) {
            for (int mark = 0; mark < house.marks; mark++) {
                if (states[deed][mark] == 0) {
                    int number = Math.max(could(members, t, deed, mark, 1), could(members, t, deed, mark, 2));
                    if (best[0] < 0 || number < best[2]) {
                        best = new int[] {deed, mark, number};
                    }
                }
            }
        }
        for (int what = 0; what < 3; what++) {
            int w = what;
            due("look " + what + " of " + members + " by " + t, x -> x.look(Drawn.set(members), late, t, w),
                    best[what]);
        }
    }

    /** How many pairs of a set COULD be with an answer, by a house in which all is worked anew with it. */
    private int could(List<Integer> members, int t, int deed, int mark, int answer) {
        DrawnLikenessTest told = new DrawnLikenessTest(this, deed, mark, answer);
        List<Parting> near = near(told.partings(members, told.table(told.states)), t);
        int could = 0;
        for (int i = 0; i < members.size(); i++) {
            for (int j = 0; j < i; j++) {
                could += sure(near, i, j) == 0 ? 1 : 0;
            }
        }
        return could;
    }

    private void lots(int deed) {
        LEDGER.promise("42");
        List<Integer> row = house.standing();
        row.remove(Integer.valueOf(deed));
        int seed = house.random.nextInt(Integer.MAX_VALUE);
        int times = 1 + house.random.nextInt(20);
        int w = row.isEmpty() ? 0 : worth(states, deed, row.get(house.random.nextInt(row.size())));
        int often = 0;
        long x = seed;
        for (int time = 0; time < times; time++) {
            int[][] dealt = new int[house.deeds][];
            for (int d = 0; d < house.deeds; d++) {
                dealt[d] = states[d].clone();
            }
            for (int mark = 0; mark < house.marks; mark++) {
                x = deal(dealt, row, mark, x);
            }
            often += row.stream().anyMatch(d -> worth(dealt, deed, d) >= w) ? 1 : 0;
        }
        due("lots of " + deed + " by " + w + ", " + seed + ", " + times, y -> y.lots(deed, w, seed, times, late),
                often);
    }

    private static long deal(int[][] dealt, List<Integer> row, int mark, long x) {
        long goes = x;
        for (int i = row.size() - 1; i >= 1; i--) {
            goes = (goes * 1103515245L + 12345L) % 2147483648L;
            int j = (int) (goes / 65536 % (i + 1));
            int state = dealt[row.get(i)][mark];
            dealt[row.get(i)][mark] = dealt[row.get(j)][mark];
            dealt[row.get(j)][mark] = state;
        }
        return goes;
    }
}
