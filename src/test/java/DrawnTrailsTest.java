import java.util.ArrayList;
import java.util.Arrays;
import java.util.List;

/** Drawn houses: STEPS, MAPS and GUESSES are what the document makes of what was told of HANDS, PLACES and HOURS. */
public final class DrawnTrailsTest {
    private static final Ledger LEDGER = new Ledger();

    private final Drawn house;
    private final String name;

    public static void main(String[] args) {
        for (int seed = 1; seed <= 150; seed++) {
            DrawnTrailsTest test = new DrawnTrailsTest(seed);
            test.numbers();
            test.moves();
            test.changes();
            test.maps();
            test.guesses();
            test.homes();
        }
        LEDGER.end();
    }

    private DrawnTrailsTest(int seed) {
        house = new Drawn(seed, 3, 4 + seed % 24);
        name = "seed " + seed;
    }

    private void due(String what, Ledger.Call call, Object want) {
        LEDGER.due(name + ": " + what, house.ask(), call, want);
    }

    private void numbers() {
        LEDGER.promise("53");
        int[] pairs = new int[3];
        int stands = 0;
        for (int a = 0; a < house.deeds; a++) {
            stands += house.stands[a] ? 1 : 0;
            for (int b = 0; b < a; b++) {
                if (house.counts[a] && house.counts[b]) {
                    pairs[house.ask().are(a, b)]++;
                }
            }
        }
        int[] due = {house.now, house.x.length, house.marks, house.home.length, 1, house.deeds, stands};
        for (int k = 0; k < due.length; k++) {
            int what = k;
            due("number " + k, x -> x.number(what), due[k]);
        }
        due("pairs that are ONE", x -> x.number(11), pairs[1]);
        due("pairs that are BARRED", x -> x.number(12), pairs[2]);
    }

    // ---- STEPS

    private int far(int place, int other) {
        int distance = house.distance(place, other);
        return distance == 0 ? 0 : distance < 10 ? 1 : distance < 50 ? 2 : 3;
    }

    private int moves(int far, int soon) {
        int many = 0;
        for (int[] step : house.steps()) {
            int hours = house.from[step[1]] - house.from[step[0]];
            int is = hours < 24 ? 0 : hours < 168 ? 1 : hours < 720 ? 2 : 3;
            many += is == soon && far(house.at[step[0]], house.at[step[1]]) == far ? 1 : 0;
        }
        return many;
    }

    private void moves() {
        LEDGER.promise("30");
        for (int k = 0; k < 16; k++) {
            int far = k / 4;
            int soon = k % 4;
            due("moves " + far + " " + soon, x -> x.moves(far, soon), moves(far, soon));
        }
    }

    private void changes() {
        LEDGER.promise("31");
        for (int mark = 0; mark < house.marks; mark++) {
            for (int k = 0; k < 8; k++) {
                int m = mark;
                int from = 1 + k % 2;
                int to = 1 + k / 2 % 2;
                boolean late = k > 3;
                int many = 0;
                for (int[] step : house.steps()) {
                    many += house.ask().state(step[0], mark, late) == from
                            && house.ask().state(step[1], mark, late) == to ? 1 : 0;
                }
                due("changes of " + m + " from " + from + " to " + to + " " + late,
                        x -> x.changes(m, from, to, late), many);
            }
        }
    }

    // ---- MAPS

    /** A SPLIT of 10,000 by weights. */
    private static int[] split(int[] weights) {
        int all = Arrays.stream(weights).sum();
        int[] shares = new int[weights.length];
        List<int[]> rests = new ArrayList<>();
        int left = 10000;
        for (int k = 0; k < weights.length; k++) {
            shares[k] = 10000 * weights[k] / all;
            left -= shares[k];
            rests.add(new int[] {-(10000 * weights[k] % all), k});
        }
        rests.sort(Arrays::compare);
        for (int k = 0; k < left; k++) {
            shares[rests.get(k)[1]]++;
        }
        return shares;
    }

    private static int likely(int[] shares, int s) {
        List<int[]> row = new ArrayList<>();
        for (int place = 0; place < shares.length; place++) {
            row.add(new int[] {-shares[place], place});
        }
        row.sort(Arrays::compare);
        int places = 0;
        int together = 0;
        for (int k = 0; together < s; k++) {
            places |= 1 << row.get(k)[1];
            together -= row.get(k)[0];
        }
        return places;
    }

    private void maps() {
        for (int deed = 0; deed < house.deeds; deed++) {
            int soon = house.random.nextInt(4);
            if (!house.gone[deed]) {
                int[] weights = new int[house.x.length];
                for (int place = 0; place < weights.length; place++) {
                    weights[place] = 1 + moves(far(house.at[deed], place), soon);
                }
                map(deed, soon, split(weights));
            }
        }
    }

    private void map(int deed, int soon, int[] shares) {
        LEDGER.promise("32");
        for (int k = 0; k < shares.length; k++) {
            int place = k;
            due("share of " + k + " behind " + deed + " by " + soon, x -> x.share(deed, soon, place), shares[k]);
        }
        int[] row = shares.clone();
        Arrays.sort(row);
        int most = row[row.length - 1];
        for (int s : new int[] {1, most, Math.min(10000, most + 1), 10000 - row[0], 10001 - row[0], 10000}) {
            LEDGER.promise("33");
            int places = likely(shares, s);
            due("likely behind " + deed + " by " + soon + ", " + s, x -> x.likely(deed, soon, s), places);
            LEDGER.promise("34 to 36");
            OneHand x = house.fresh();
            int by = house.random.nextInt(house.deeds);
            LEDGER.due(name + ": keep", x, y -> y.keep(deed, soon, s), 0);
            if (!house.gone[by]) {
                boolean in = (places >> house.at[by] & 1) != 0;
                LEDGER.due(name + ": came by " + by, x, y -> y.came(0, by), in);
                LEDGER.due(name + ": record", x, y -> 10 * y.record(true) + y.record(false), in ? 10 : 1);
            }
        }
    }

    // ---- GUESSES

    private int guess(List<Integer> set) {
        int found = 0;
        int[] sums = new int[house.x.length];
        for (int place = 0; place < sums.length; place++) {
            for (int deed : set) {
                sums[place] += house.distance(place, house.at[deed]);
            }
            found = sums[place] < sums[found] ? place : found;
        }
        return found;
    }

    private void guesses() {
        LEDGER.promise("38");
        for (int most = 1; most <= house.deeds; most++) {
            List<Integer> set = house.some(most);
            if (!set.isEmpty()) {
                due("guess of " + set, x -> x.guess(Drawn.set(set)), guess(set));
            }
        }
    }

    private void homes() {
        LEDGER.promise("39");
        List<Integer> away = new ArrayList<>();
        for (int hand = 0; hand < house.home.length; hand++) {
            int itsHand = hand;
            List<Integer> own = house.standing().stream().filter(deed -> house.isOf(deed, itsHand)).toList();
            if (own.size() > 1 && house.home[hand] != OneHand.NONE) {
                away.add(house.distance(guess(own), house.home[hand]));
            }
        }
        for (int k = -1; k < 3 * away.size(); k++) {
            int within = k < 0 ? house.random.nextInt(199) : Math.max(0, Math.min(198, away.get(k / 3) + k % 3 - 1));
            int near = (int) away.stream().filter(distance -> distance <= within).count();
            due("homes within " + within, x -> x.homes(within, true), near);
            due("homes not within " + within, x -> x.homes(within, false), away.size() - near);
        }
    }
}
