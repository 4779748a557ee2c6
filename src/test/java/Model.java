import java.util.ArrayList;
import java.util.Arrays;
import java.util.HashMap;
import java.util.HashSet;
import java.util.List;
import java.util.Map;
import java.util.NoSuchElementException;
import java.util.Set;
import java.util.TreeSet;

/** The document once more, in its plainest and slowest form, for AgainstModelTest to hold OneHand against. */
final class Model {
    interface States {
        int of(int deed, int mark);
    }

    private record Place(int x, int y, int land) { }

    private record Officer(int land, int rank) { }

    private record Told(int mark, int state, boolean late) { }

    private record Link(int officer, int a, int b) {
        boolean has(int deed) {
            return a == deed || b == deed;
        }
    }

    private record Step(int from, int to) { }

    private static final class Deed {
        int place;
        int from;
        int to;
        int told;
        final Set<Integer> hands = new TreeSet<>();
        final List<Told> tells = new ArrayList<>();
        boolean doubted;
        boolean gone;
    }

    private static final class Kept {
        int places;
        Boolean came;
    }

    private int now;
    private final List<Place> places = new ArrayList<>();
    private int marks;
    private final List<Integer> hands = new ArrayList<>();
    private final List<Officer> officers = new ArrayList<>();
    private final List<Deed> deeds = new ArrayList<>();
    private List<Link> links = new ArrayList<>();
    private final Set<Integer> barred = new HashSet<>();
    private int windowFrom = 0;
    private int windowTo = 99999;
    private final List<Kept> maps = new ArrayList<>();
    private final List<Integer> tape = new ArrayList<>();
    private ModelRights rights = new ModelRights("");
    private int fault = 0;
    private int faultPlace = -1;
    private final long[][] trays = new long[4][];
    private final int[] sorts = new int[4];

    // ---- refusals

    private static void need(boolean holds, RuntimeException e) {
        if (!holds) {
            throw e;
        }
    }

    private static NoSuchElementException none() {
        return new NoSuchElementException();
    }

    private static IllegalArgumentException wrong() {
        return new IllegalArgumentException();
    }

    private static IllegalStateException state() {
        return new IllegalStateException();
    }

    private boolean isDeed(int d) {
        return d >= 0 && d < deeds.size() && !deeds.get(d).gone;
    }

    private void needDeed(int... all) {
        for (int d : all) {
            need(isDeed(d), none());
        }
    }

    private void needMark(int m) {
        need(m >= 0 && m < marks, none());
    }

    private List<Integer> members(long set, int least, int most) {
        List<Integer> found = new ArrayList<>();
        for (int d = 0; d < 64; d++) {
            if ((set & 1L << d) != 0) {
                need(isDeed(d) && stands(d), wrong());
                found.add(d);
            }
        }
        need(found.size() >= least && found.size() <= most, wrong());
        return found;
    }

    // ---- the land and the deeds

    int go(int hours) {
        need(hours >= 1 && hours <= 10000, wrong());
        need(now + hours <= 99999, state());
        now += hours;
        int gone = 0;
        for (int d = 0; d < deeds.size(); d++) {
            if (isDeed(d)) {
                int keep = kept(d);
                if (keep != -1 && !(keep > now - deeds.get(d).told)) {
                    forget(d);
                    gone++;
                }
            }
        }
        return gone;
    }

    int place(int x, int y, int land) {
        need(x >= 0 && x < 100 && y >= 0 && y < 100 && land >= 0 && land < 6, wrong());
        if (places.size() == 30) {
            return -1;
        }
        places.add(new Place(x, y, land));
        return places.size() - 1;
    }

    int mark() {
        return marks == 16 ? -1 : marks++;
    }

    int hand(int home) {
        need(home == -1 || home >= 0 && home < places.size(), none());
        if (hands.size() == 20) {
            return -1;
        }
        hands.add(home);
        return hands.size() - 1;
    }

    int officer(int land, int rank) {
        need(land >= 0 && land < 6 && rank >= 0 && rank < 10, wrong());
        if (officers.size() == 10) {
            return -1;
        }
        officers.add(new Officer(land, rank));
        return officers.size() - 1;
    }

    int deed(int place, int from, int to) {
        need(place >= 0 && place < places.size(), none());
        need(from >= 0 && from <= 99999 && to >= from && to <= now, wrong());
        if (deeds.size() == 60) {
            return -1;
        }
        Deed made = new Deed();
        made.place = place;
        made.from = from;
        made.to = to;
        made.told = now;
        deeds.add(made);
        return deeds.size() - 1;
    }

    int tell(int deed, int mark, int state) {
        needDeed(deed);
        needMark(mark);
        need(state >= 0 && state <= 3, wrong());
        int before = stateOf(deed, mark, true);
        deeds.get(deed).tells.add(new Told(mark, state, linksOf(deed) > 0));
        return before;
    }

    private int linksOf(int deed) {
        return (int) links.stream().filter(l -> l.has(deed)).count();
    }

    private int stateOf(int deed, int mark, boolean late) {
        int found = 0;
        for (Told t : deeds.get(deed).tells) {
            if (t.mark == mark && (late || !t.late)) {
                found = t.state;
            }
        }
        return found;
    }

    private States states(boolean late) {
        int[][] all = new int[deeds.size()][marks];
        for (int d = 0; d < deeds.size(); d++) {
            for (int m = 0; m < marks; m++) {
                all[d][m] = stateOf(d, m, late);
            }
        }
        return (d, m) -> all[d][m];
    }

    int state(int deed, int mark, boolean late) {
        needDeed(deed);
        needMark(mark);
        return stateOf(deed, mark, late);
    }

    boolean doubt(int deed, boolean is) {
        needDeed(deed);
        boolean before = deeds.get(deed).doubted;
        deeds.get(deed).doubted = is;
        return before;
    }

    void solve(int deed, int one, int other) {
        needDeed(deed);
        boolean both = one >= 0 && one < hands.size() && other >= 0 && other < hands.size();
        need(both || one == -1 && other == -1, none());
        deeds.get(deed).hands.clear();
        if (both) {
            deeds.get(deed).hands.addAll(List.of(one).equals(List.of(other)) ? List.of(one) : List.of(one, other));
        }
    }

    private boolean stands(int d) {
        return !deeds.get(d).gone && !deeds.get(d).doubted;
    }

    private boolean counts(int d) {
        return stands(d) && deeds.get(d).from >= windowFrom && deeds.get(d).from <= windowTo;
    }

    private boolean isSolved(int d) {
        return !deeds.get(d).hands.isEmpty();
    }

    private boolean areOne(int a, int b) {
        Set<Integer> common = new HashSet<>(deeds.get(a).hands);
        common.retainAll(deeds.get(b).hands);
        return !common.isEmpty();
    }

    private int distance(int p, int q) {
        return Math.abs(places.get(p).x - places.get(q).x) + Math.abs(places.get(p).y - places.get(q).y);
    }

    private boolean areApart(int a, int b) {
        Deed one = deeds.get(a);
        Deed other = deeds.get(b);
        return 4 * Math.max(one.to - other.from, other.to - one.from) < distance(one.place, other.place);
    }

    private boolean areBarred(int a, int b) {
        boolean told = barred.contains(Math.min(a, b) * 100 + Math.max(a, b));
        return !areOne(a, b) && (areApart(a, b) || told || isSolved(a) && isSolved(b));
    }

    boolean bar(int a, int b) {
        needDeed(a, b);
        need(a != b, wrong());
        return barred.add(Math.min(a, b) * 100 + Math.max(a, b));
    }

    int are(int a, int b) {
        needDeed(a, b);
        need(a != b, wrong());
        return areOne(a, b) ? 1 : areBarred(a, b) ? 2 : 0;
    }

    int link(int officer, int a, int b) {
        need(officer >= 0 && officer < officers.size(), none());
        needDeed(a, b);
        need(a != b, wrong());
        if (links.size() == 40) {
            return -1;
        }
        links.add(new Link(officer, a, b));
        return links.size();
    }

    int right(int officer, boolean right) {
        need(officer >= 0 && officer < officers.size(), none());
        int many = 0;
        for (Link l : links) {
            if (l.officer == officer) {
                boolean one = areOne(l.a, l.b);
                if (right && one || !right && !one && isSolved(l.a) && isSolved(l.b)) {
                    many++;
                }
            }
        }
        return many;
    }

    void forget(int deed) {
        needDeed(deed);
        deeds.get(deed).gone = true;
        links = new ArrayList<>(links.stream().filter(l -> !l.has(deed)).toList());
    }

    void window(int from, int to) {
        need(from >= 0 && to <= 99999 && from <= to, wrong());
        windowFrom = from;
        windowTo = to;
    }

    // ---- what likeness is worth

    private final class View {
        final States counted;
        final States seen;
        final Map<Integer, Integer> memo = new HashMap<>();
        final Map<Integer, Integer> parents = new HashMap<>();

        View(States counted, States seen) {
            this.counted = counted;
            this.seen = seen;
            hang();
        }

        private boolean looked(int state) {
            return state == 1 || state == 2;
        }

        int outcome(States by, int m, int a, int b) {
            int one = by.of(a, m);
            int other = by.of(b, m);
            if (!looked(one) || !looked(other)) {
                return 3;
            }
            return (one == 2 ? 1 : 0) + (other == 2 ? 1 : 0);
        }

        int weight(int m, int n) {
            int[] table = new int[4];
            for (int d = 0; d < deeds.size(); d++) {
                if (counts(d) && looked(counted.of(d, m)) && looked(counted.of(d, n))) {
                    table[(counted.of(d, m) == 2 ? 0 : 2) + (counted.of(d, n) == 2 ? 0 : 1)]++;
                }
            }
            return Math.abs(table[0] * table[3] - table[1] * table[2]);
        }

        private void hang() {
            List<int[]> pairs = new ArrayList<>();
            for (int m = 0; m < marks; m++) {
                for (int n = m + 1; n < marks; n++) {
                    int w = weight(m, n);
                    if (w > 0) {
                        pairs.add(new int[] {-w, m, n});
                    }
                }
            }
            pairs.sort(Arrays::compare);
            List<Set<Integer>> near = new ArrayList<>();
            for (int m = 0; m < marks; m++) {
                near.add(new TreeSet<>());
            }
            for (int[] pair : pairs) {
                if (!reached(near, pair[1]).contains(pair[2])) {
                    near.get(pair[1]).add(pair[2]);
                    near.get(pair[2]).add(pair[1]);
                }
            }
            for (int m = 0; m < marks; m++) {
                int least = new TreeSet<>(reached(near, m)).first();
                for (int next : near.get(m)) {
                    // the neighbour from which the least one is still reached when m is taken out
                    if (m != least && reachedWithout(near, next, m).contains(least)) {
                        parents.put(m, next);
                    }
                }
            }
        }

        private Set<Integer> reached(List<Set<Integer>> near, int from) {
            return reachedWithout(near, from, -1);
        }

        private Set<Integer> reachedWithout(List<Set<Integer>> near, int from, int without) {
            Set<Integer> seenSoFar = new HashSet<>();
            walk(near, from, without, seenSoFar);
            return seenSoFar;
        }

        private void walk(List<Set<Integer>> near, int at, int without, Set<Integer> found) {
            if (at != without && found.add(at)) {
                for (int next : near.get(at)) {
                    walk(near, next, without, found);
                }
            }
        }

        /** Of pairs that are ONE or BARRED how many have an OUTCOME (3: any), and one of the PARENT (3: not asked). */
        int tally(int m, boolean one, int o, int parentOutcome) {
            int key = ((m * 2 + (one ? 1 : 0)) * 4 + o) * 4 + parentOutcome;
            Integer known = memo.get(key);
            if (known == null) {
                int many = 0;
                for (int a = 0; a < deeds.size(); a++) {
                    for (int b = a + 1; counts(a) && b < deeds.size(); b++) {
                        if (counts(b) && (one ? areOne(a, b) : areBarred(a, b))) {
                            int is = outcome(counted, m, a, b);
                            boolean fits = o == 3 ? is != 3 : is == o;
                            boolean asked = parentOutcome == 3
                                    || outcome(counted, parents.get(m), a, b) == parentOutcome;
                            many += fits && asked ? 1 : 0;
                        }
                    }
                }
                known = many;
                memo.put(key, known);
            }
            return known;
        }

        int worth(int a, int b, int m) {
            int o = outcome(seen, m, a, b);
            if (o == 3) {
                return 0;
            }
            int p = parents.containsKey(m) ? outcome(seen, parents.get(m), a, b) : 3;
            return log(tally(m, true, o, p) + 1) - log(tally(m, true, 3, p) + 3)
                    - log(tally(m, false, o, p) + 1) + log(tally(m, false, 3, p) + 3);
        }

        int worth(int a, int b) {
            int all = 0;
            for (int m = 0; m < marks; m++) {
                all += worth(a, b, m);
            }
            return all;
        }
    }

    private static int log(int v) {
        int b = 0;
        int power = 1;
        while (power * 2 <= v) {
            power *= 2;
            b++;
        }
        return 64 * b + 64 * (v - power) / power;
    }

    private View view(boolean late) {
        States s = states(late);
        return new View(s, s);
    }

    int count(int mark, boolean one, int outcome, boolean late) {
        needMark(mark);
        need(outcome >= 0 && outcome <= 3, wrong());
        return view(late).tally(mark, one, outcome, 3);
    }

    int span(int mark, boolean one, int outcome, boolean late, boolean high) {
        needMark(mark);
        need(outcome >= 0 && outcome <= 2, wrong());
        int n = count(mark, one, outcome, late);
        int all = count(mark, one, 3, late);
        if (!high) {
            return 1000 * n / (all + 2);
        }
        int up = 1000 * (n + 2);
        return up / (all + 2) + (up % (all + 2) == 0 ? 0 : 1);
    }

    int weight(int a, int b, boolean late) {
        needMark(a);
        needMark(b);
        need(a != b, wrong());
        return view(late).weight(a, b);
    }

    int parent(int mark, boolean late) {
        needMark(mark);
        return view(late).parents.getOrDefault(mark, -1);
    }

    int worth(int a, int b, boolean late) {
        needDeed(a, b);
        need(a != b, wrong());
        return view(late).worth(a, b);
    }

    int by(int a, int b, int mark, boolean late) {
        needDeed(a, b);
        needMark(mark);
        need(a != b, wrong());
        return view(late).worth(a, b, mark);
    }

    // ---- partings

    private record Parting(List<Integer> row, int worth) {
        boolean joins(int i, int j) {
            return row.get(i).equals(row.get(j));
        }
    }

    private List<Parting> partings(List<Integer> set, View view) {
        int n = set.size();
        int[][] worths = new int[n][n];
        int[][] are = new int[n][n];
        for (int i = 0; i < n; i++) {
            for (int j = i + 1; j < n; j++) {
                worths[i][j] = view.worth(set.get(i), set.get(j));
                are[i][j] = areOne(set.get(i), set.get(j)) ? 1 : areBarred(set.get(i), set.get(j)) ? 2 : 0;
            }
        }
        List<Parting> found = new ArrayList<>();
        for (List<Integer> row : rows(n)) {
            int worth = 0;
            boolean fits = true;
            for (int i = 0; i < n; i++) {
                for (int j = i + 1; j < n; j++) {
                    boolean together = row.get(i).equals(row.get(j));
                    worth += together ? worths[i][j] : 0;
                    fits &= !(together && are[i][j] == 2) && !(!together && are[i][j] == 1);
                }
            }
            if (fits) {
                found.add(new Parting(row, worth));
            }
        }
        return found;
    }

    private static final Map<Integer, List<List<Integer>>> ROWS = new HashMap<>();

    /** All rows of numbers of parts, the first ones first. */
    private static List<List<Integer>> rows(int n) {
        if (n == 0) {
            return List.of(List.of());
        }
        if (!ROWS.containsKey(n)) {
            List<List<Integer>> found = new ArrayList<>();
            for (List<Integer> row : rows(n - 1)) {
                int parts = row.stream().mapToInt(x -> x + 1).max().orElse(0);
                for (int p = 0; p <= parts; p++) {
                    List<Integer> longer = new ArrayList<>(row);
                    longer.add(p);
                    found.add(longer);
                }
            }
            ROWS.put(n, found);
        }
        return ROWS.get(n);
    }

    private static Parting bestOf(List<Parting> all) {
        need(!all.isEmpty(), state());
        Parting best = all.get(0);
        for (Parting p : all) {
            if (p.worth > best.worth) {
                best = p;
            }
        }
        return best;
    }

    private static List<Parting> nearOf(List<Parting> all, int t) {
        int best = bestOf(all).worth;
        return all.stream().filter(p -> p.worth >= best - t).toList();
    }

    int best(long set, boolean late) {
        return bestOf(partings(members(set, 2, 9), view(late))).worth;
    }

    int part(long set, boolean late, int deed) {
        List<Integer> all = members(set, 2, 9);
        Parting best = bestOf(partings(all, view(late)));
        return all.contains(deed) ? best.row.get(all.indexOf(deed)) : -1;
    }

    int near(long set, boolean late, int t) {
        List<Integer> all = members(set, 2, 9);
        need(t >= 0 && t <= 1000000, wrong());
        int many = nearOf(partings(all, view(late)), t).size();
        return many > 20000 ? -3 : many;
    }

    private static int sureOf(List<Parting> near, int i, int j) {
        if (near.stream().allMatch(p -> p.joins(i, j))) {
            return 1;
        }
        return near.stream().noneMatch(p -> p.joins(i, j)) ? 2 : 0;
    }

    int sure(long set, boolean late, int t, int a, int b) {
        List<Integer> all = members(set, 2, 9);
        need(t >= 0 && t <= 1000000, wrong());
        need(a != b && all.contains(a) && all.contains(b), wrong());
        List<Parting> near = nearOf(partings(all, view(late)), t);
        return near.size() > 20000 ? -3 : sureOf(near, all.indexOf(a), all.indexOf(b));
    }

    private List<Integer> standing() {
        List<Integer> found = new ArrayList<>();
        for (int d = 0; d < deeds.size(); d++) {
            if (stands(d)) {
                found.add(d);
            }
        }
        return found;
    }

    private List<TreeSet<Integer>> groups(boolean late) {
        View view = view(late);
        int[][] worths = new int[deeds.size()][deeds.size()];
        boolean[][] bars = new boolean[deeds.size()][deeds.size()];
        List<TreeSet<Integer>> groups = new ArrayList<>();
        for (int a : standing()) {
            groups.add(new TreeSet<>(Set.of(a)));
            for (int b : standing()) {
                if (a != b) {
                    worths[a][b] = view.worth(a, b);
                    bars[a][b] = areBarred(a, b);
                }
            }
        }
        while (true) {
            int[] best = null;
            for (TreeSet<Integer> one : groups) {
                for (TreeSet<Integer> other : groups) {
                    if (one.first() < other.first()) {
                        int sum = 0;
                        boolean free = true;
                        for (int a : one) {
                            for (int b : other) {
                                sum += worths[a][b];
                                free &= !bars[a][b];
                            }
                        }
                        int[] next = {-sum, one.first(), other.first()};
                        if (free && sum > 0 && (best == null || Arrays.compare(next, best) < 0)) {
                            best = next;
                        }
                    }
                }
            }
            if (best == null) {
                return groups;
            }
            TreeSet<Integer> other = groupOf(groups, best[2]);
            groups.remove(other);
            groupOf(groups, best[1]).addAll(other);
        }
    }

    private static TreeSet<Integer> groupOf(List<TreeSet<Integer>> groups, int deed) {
        return groups.stream().filter(g -> g.contains(deed)).findFirst().get();
    }

    int joined(int deed, boolean late) {
        needDeed(deed);
        need(!deeds.get(deed).doubted, state());
        return groupOf(groups(late), deed).first();
    }

    int bound(boolean late) {
        View view = view(late);
        int all = 0;
        for (int a : standing()) {
            for (int b : standing()) {
                if (a < b && !areBarred(a, b)) {
                    all += Math.max(0, view.worth(a, b));
                }
            }
        }
        return all;
    }

    // ---- hands that go on

    private List<Step> steps() {
        List<Step> found = new ArrayList<>();
        for (int h = 0; h < hands.size(); h++) {
            int hand = h;
            List<Integer> own = new ArrayList<>(standing().stream()
                    .filter(d -> deeds.get(d).hands.contains(hand)).toList());
            own.sort((a, b) -> deeds.get(a).from != deeds.get(b).from
                    ? deeds.get(a).from - deeds.get(b).from : a - b);
            for (int k = 0; k + 1 < own.size(); k++) {
                found.add(new Step(own.get(k), own.get(k + 1)));
            }
        }
        return found;
    }

    private static int sortOf(int v, int... bounds) {
        int sort = 0;
        for (int bound : bounds) {
            sort += v >= bound ? 1 : 0;
        }
        return sort;
    }

    private int far(int p, int q) {
        return sortOf(distance(p, q), 1, 10, 50);
    }

    private int hours(Step s) {
        return deeds.get(s.to).from - deeds.get(s.from).from;
    }

    int moves(int far, int soon) {
        need(far >= 0 && far <= 3 && soon >= 0 && soon <= 3, wrong());
        return (int) steps().stream().filter(s -> far(deeds.get(s.from).place, deeds.get(s.to).place) == far
                && sortOf(hours(s), 24, 168, 720) == soon).count();
    }

    int changes(int mark, int from, int to, boolean late) {
        needMark(mark);
        need((from == 1 || from == 2) && (to == 1 || to == 2), wrong());
        return (int) steps().stream().filter(s -> stateOf(s.from, mark, late) == from
                && stateOf(s.to, mark, late) == to).count();
    }

    private int[] shares(int deed, int soon) {
        int n = places.size();
        int[] weights = new int[n];
        int all = 0;
        for (int p = 0; p < n; p++) {
            weights[p] = 1 + moves(far(deeds.get(deed).place, p), soon);
            all += weights[p];
        }
        int[] shares = new int[n];
        List<int[]> rests = new ArrayList<>();
        int left = 10000;
        for (int p = 0; p < n; p++) {
            shares[p] = 10000 * weights[p] / all;
            left -= shares[p];
            rests.add(new int[] {-(10000 * weights[p] % all), p});
        }
        rests.sort(Arrays::compare);
        for (int k = 0; k < left; k++) {
            shares[rests.get(k)[1]]++;
        }
        return shares;
    }

    int share(int deed, int soon, int place) {
        needDeed(deed);
        need(place >= 0 && place < places.size(), none());
        need(soon >= 0 && soon <= 3, wrong());
        return shares(deed, soon)[place];
    }

    int likely(int deed, int soon, int s) {
        needDeed(deed);
        need(soon >= 0 && soon <= 3, wrong());
        need(s >= 1 && s <= 10000, wrong());
        int[] shares = shares(deed, soon);
        List<int[]> rows = new ArrayList<>();
        for (int p = 0; p < shares.length; p++) {
            rows.add(new int[] {-shares[p], p});
        }
        rows.sort(Arrays::compare);
        int set = 0;
        int sum = 0;
        for (int[] row : rows) {
            if (sum < s) {
                set |= 1 << row[1];
                sum -= row[0];
            }
        }
        return set;
    }

    int keep(int deed, int soon, int s) {
        int set = likely(deed, soon, s);
        if (maps.size() == 20) {
            return -1;
        }
        Kept kept = new Kept();
        kept.places = set;
        maps.add(kept);
        return maps.size() - 1;
    }

    boolean came(int map, int deed) {
        need(map >= 0 && map < maps.size(), none());
        needDeed(deed);
        need(maps.get(map).came == null, state());
        maps.get(map).came = (maps.get(map).places & 1 << deeds.get(deed).place) != 0;
        return maps.get(map).came;
    }

    int record(boolean is) {
        return (int) maps.stream().filter(m -> m.came != null && m.came == is).count();
    }

    boolean stopped(int deed, boolean late) {
        needDeed(deed);
        need(!deeds.get(deed).doubted, state());
        int latest = groupOf(groups(late), deed).stream().mapToInt(d -> deeds.get(d).from).max().getAsInt();
        int longest = steps().stream().mapToInt(this::hours).max().orElse(Integer.MAX_VALUE);
        return now - latest > longest;
    }

    private int guessOf(List<Integer> set) {
        int best = 0;
        int least = Integer.MAX_VALUE;
        for (int p = 0; p < places.size(); p++) {
            int sum = 0;
            for (int d : set) {
                sum += distance(p, deeds.get(d).place);
            }
            if (sum < least) {
                least = sum;
                best = p;
            }
        }
        return best;
    }

    int guess(long set) {
        return guessOf(members(set, 1, 60));
    }

    int homes(int within, boolean is) {
        need(within >= 0 && within <= 198, wrong());
        int many = 0;
        for (int h = 0; h < hands.size(); h++) {
            int hand = h;
            List<Integer> own = standing().stream().filter(d -> deeds.get(d).hands.contains(hand)).toList();
            if (hands.get(h) != -1 && own.size() >= 2) {
                many += distance(guessOf(own), hands.get(h)) <= within == is ? 1 : 0;
            }
        }
        return many;
    }

    // ---- looks, chance

    int look(long set, boolean late, int t, int what) {
        List<Integer> all = members(set, 2, 5);
        need(t >= 0 && t <= 1000000, wrong());
        need(what >= 0 && what <= 2, wrong());
        bestOf(partings(all, view(late)));
        States is = states(late);
        int[] best = null;
        for (int deed : all) {
            for (int m = 0; m < marks; m++) {
                if (is.of(deed, m) == 0) {
                    int mark = m;
                    int number = 0;
                    for (int a = 1; a <= 2; a++) {
                        int answer = a;
                        States then = (d, n) -> d == deed && n == mark ? answer : is.of(d, n);
                        List<Parting> near = nearOf(partings(all, new View(then, then)), t);
                        int could = 0;
                        for (int i = 0; i < all.size(); i++) {
                            for (int j = i + 1; j < all.size(); j++) {
                                could += sureOf(near, i, j) == 0 ? 1 : 0;
                            }
                        }
                        number = Math.max(number, could);
                    }
                    if (best == null || number < best[2]) {
                        best = new int[] {deed, mark, number};
                    }
                }
            }
        }
        return best == null ? -1 : best[what];
    }

    int others(int deed, int w, boolean late, boolean all) {
        needDeed(deed);
        View view = view(late);
        return (int) standing().stream().filter(d -> d != deed && areBarred(deed, d)
                && (all || view.worth(deed, d) >= w)).count();
    }

    int lots(int deed, int w, int seed, int times, boolean late) {
        needDeed(deed);
        need(seed >= 0 && times >= 1 && times <= 20, wrong());
        need(!deeds.get(deed).doubted, state());
        States is = states(late);
        List<Integer> row = new ArrayList<>(standing());
        row.remove(Integer.valueOf(deed));
        long x = seed;
        int often = 0;
        Map<Integer, Integer> dealt = new HashMap<>();
        View view = new View(is, (d, m) -> dealt.getOrDefault(d * 16 + m, is.of(d, m)));
        for (int time = 0; time < times; time++) {
            for (int m = 0; m < marks; m++) {
                List<Integer> states = new ArrayList<>();
                for (int d : row) {
                    states.add(is.of(d, m));
                }
                for (int i = row.size() - 1; i >= 1; i--) {
                    x = (x * 1103515245L + 12345L) % 2147483648L;
                    int j = (int) (x / 65536 % (i + 1));
                    int one = states.get(i);
                    states.set(i, states.get(j));
                    states.set(j, one);
                }
                for (int k = 0; k < row.size(); k++) {
                    dealt.put(row.get(k) * 16 + m, states.get(k));
                }
            }
            often += row.stream().anyMatch(d -> view.worth(deed, d) >= w) ? 1 : 0;
        }
        return often;
    }

    // ---- rights

    int feed(int a, int b, int c, int d, int e) {
        if (tape.size() + 20 > 300) {
            return -1;
        }
        for (int v : new int[] {a, b, c, d, e}) {
            for (int shift : new int[] {24, 16, 8, 0}) {
                tape.add(v >> shift & 255);
            }
        }
        return tape.size();
    }

    int text(int n) {
        need(n >= 0 && n <= tape.size(), wrong());
        StringBuilder text = new StringBuilder();
        for (int k = 0; k < n; k++) {
            text.append((char) (int) tape.get(k));
        }
        tape.clear();
        ModelRights read = new ModelRights(text.toString());
        fault = read.fault;
        faultPlace = read.faultPlace;
        if (fault != 0) {
            return -10 - fault;
        }
        rights = read;
        return read.lines.size();
    }

    int fault(int what) {
        return what == 0 ? fault : what == 1 ? faultPlace : -1;
    }

    private Map<String, Long> names(int deed, long rank, long own) {
        Deed d = deeds.get(deed);
        long there = 0;
        for (int m = 0; m < marks; m++) {
            there += stateOf(deed, m, true) == 2 ? 1 : 0;
        }
        return Map.of("rank", rank, "land", own, "age", (long) now - d.told, "solved", isSolved(deed) ? 1L : 0L,
                "doubted", d.doubted ? 1L : 0L, "there", there, "links", (long) linksOf(deed));
    }

    boolean may(int officer, int deed) {
        need(officer >= 0 && officer < officers.size(), none());
        needDeed(deed);
        Officer o = officers.get(officer);
        return rights.lets(names(deed, o.rank, o.land == places.get(deeds.get(deed).place).land ? 1 : 0));
    }

    int ask(int officer, int deed, int mark) {
        if (officer < 0 || officer >= officers.size() || !isDeed(deed) || mark < 0 || mark >= marks) {
            return -1;
        }
        return may(officer, deed) ? stateOf(deed, mark, true) : -1;
    }

    int kept(int deed) {
        needDeed(deed);
        return rights.keeps(names(deed, 0, 0));
    }

    // ---- trays

    void tray(int tray, int sort, int many) {
        need(tray >= 0 && tray < 4, none());
        need(sort >= 0 && sort < 4 && many >= 0 && many <= 40, wrong());
        trays[tray] = new long[many];
        sorts[tray] = sort;
    }

    long write(int tray, int place, long v) {
        need(tray >= 0 && tray < 4, none());
        need(trays[tray] != null, state());
        need(place >= 0 && place < trays[tray].length, new IndexOutOfBoundsException());
        int unused = 64 - (8 << sorts[tray]);
        trays[tray][place] = v << unused >> unused;
        return trays[tray][place];
    }

    int take(int tray, int deed) {
        need(tray >= 0 && tray < 4, none());
        needDeed(deed);
        need(trays[tray] != null, state());
        need(trays[tray].length <= marks, wrong());
        for (long v : trays[tray]) {
            need(v >= 0 && v <= 3, wrong());
        }
        for (int m = 0; m < trays[tray].length; m++) {
            tell(deed, m, (int) trays[tray][m]);
        }
        return trays[tray].length;
    }

    int check(long set, boolean late, int tray) {
        need(tray >= 0 && tray < 4, none());
        List<Integer> all = members(set, 2, 9);
        if (trays[tray] == null) {
            return -2;
        }
        View view = view(late);
        List<Integer> worths = new ArrayList<>();
        for (int a : all) {
            for (int b : all) {
                if (a < b) {
                    worths.add(view.worth(a, b));
                }
            }
        }
        for (int k = 0; k < worths.size(); k++) {
            if (k == trays[tray].length) {
                return -3 - k;
            }
            if (trays[tray][k] != worths.get(k)) {
                return k;
            }
        }
        return -1;
    }

    int number(int what) {
        int ones = 0;
        int bars = 0;
        for (int a = 0; a < deeds.size(); a++) {
            for (int b = a + 1; b < deeds.size(); b++) {
                if (counts(a) && counts(b)) {
                    ones += areOne(a, b) ? 1 : 0;
                    bars += areBarred(a, b) ? 1 : 0;
                }
            }
        }
        int[] all = {now, places.size(), marks, hands.size(), officers.size(), deeds.size(), standing().size(),
            links.size(), maps.size(), rights.lines.size(), tape.size(), ones, bars};
        return what >= 0 && what < all.length ? all[what] : -1;
    }
}
