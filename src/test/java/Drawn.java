import java.util.ArrayList;
import java.util.List;
import java.util.Random;

/** A house that is drawn by a seed: the calls that make it, and a record of what they told. */
final class Drawn {
    private static final int CALLS = 512;

    final Random random;
    final int marks;
    final int deeds;
    final int[] x;
    final int[] y;
    final int[] home;
    final int[] at;
    final int[] from;
    final int[][] hands;
    final boolean[] stands;
    final boolean[] counts;
    final boolean[] gone;
    final int now = 3000;
    private final List<Ledger.Story> calls = new ArrayList<>();
    private OneHand made = null;
    private int left = 0;

    /** So many MARKS and DEEDS; of a crowded house all is near by, so that HANDS go on in many ways. */
    Drawn(int seed, int marks, int deeds) {
        random = new Random(seed);
        this.marks = marks;
        this.deeds = deeds;
        x = new int[2 + random.nextInt(6)];
        y = new int[x.length];
        home = new int[4];
        at = new int[deeds];
        from = new int[deeds];
        hands = new int[deeds][];
        stands = new boolean[deeds];
        counts = new boolean[deeds];
        gone = new boolean[deeds];
        drawLand();
        drawDeeds();
        drawStates();
        drawRest();
    }

    /** The house; it is made anew ahead of its 513th call. */
    OneHand ask() {
        if (left == 0) {
            made = fresh();
            left = CALLS - calls.size();
        }
        left--;
        return made;
    }

    OneHand fresh() {
        return Ledger.made(house -> calls.forEach(call -> call.on(house)));
    }

    private void call(Ledger.Story call) {
        calls.add(call);
    }

    private boolean chance(int percent) {
        return random.nextInt(100) < percent;
    }

    private void drawLand() {
        int across = chance(50) ? 100 : 15;
        for (int place = 0; place < x.length; place++) {
            int atX = random.nextInt(across);
            int atY = random.nextInt(across);
            x[place] = atX;
            y[place] = atY;
            call(house -> house.place(atX, atY, 0));
        }
        for (int mark = 0; mark < marks; mark++) {
            call(OneHand::mark);
        }
        for (int hand = 0; hand < home.length; hand++) {
            int itsHome = chance(70) ? random.nextInt(x.length) : OneHand.NONE;
            home[hand] = itsHome;
            call(house -> house.hand(itsHome));
        }
        call(house -> house.officer(0, 0));
        call(house -> house.go(now));
    }

    private void drawDeeds() {
        int last = chance(50) ? 2900 : 400;
        for (int deed = 0; deed < deeds; deed++) {
            int place = random.nextInt(x.length);
            int first = random.nextInt(last);
            int end = first + random.nextInt(20);
            at[deed] = place;
            from[deed] = first;
            call(house -> house.deed(place, first, end));
        }
        for (int deed = 0; deed < deeds; deed++) {
            int d = deed;
            int one = random.nextInt(home.length);
            int other = chance(20) ? random.nextInt(home.length) : one;
            hands[deed] = chance(30) ? new int[0] : one == other ? new int[] {one} : new int[] {one, other};
            if (hands[deed].length > 0) {
                call(house -> house.solve(d, one, other));
            }
        }
    }

    private void tell(int deed, int mark) {
        int state = chance(80) ? 1 + random.nextInt(2) : random.nextInt(4);
        call(house -> house.tell(deed, mark, state));
    }

    /** Most STATES are told ahead of the LINKS, some behind them. */
    private void drawStates() {
        for (int deed = 0; deed < deeds; deed++) {
            for (int mark = 0; mark < marks; mark++) {
                if (chance(85)) {
                    tell(deed, mark);
                }
            }
        }
        for (int k = 0; k < 3; k++) {
            int a = random.nextInt(deeds);
            int b = (a + 1 + random.nextInt(deeds - 1)) % deeds;
            call(house -> house.link(0, a, b));
            for (int mark = 0; mark < marks; mark++) {
                tell(chance(50) ? a : b, mark);
            }
        }
    }

    private void drawRest() {
        for (int k = 0; k < 3; k++) {
            int a = random.nextInt(deeds);
            int b = (a + 1 + random.nextInt(deeds - 1)) % deeds;
            call(house -> house.bar(a, b));
        }
        int first = chance(50) ? 0 : random.nextInt(300);
        int last = chance(50) ? 99999 : 300 + random.nextInt(2000);
        call(house -> house.window(first, last));
        for (int deed = 0; deed < deeds; deed++) {
            int d = deed;
            gone[deed] = chance(5);
            boolean doubted = chance(7);
            stands[deed] = !gone[deed] && !doubted;
            counts[deed] = stands[deed] && from[deed] >= first && from[deed] <= last;
            if (doubted) {
                call(house -> house.doubt(d, true));
            }
            if (gone[deed]) {
                call(house -> house.forget(d));
            }
        }
    }

    int distance(int place, int other) {
        return Math.abs(x[place] - x[other]) + Math.abs(y[place] - y[other]);
    }

    boolean isOf(int deed, int hand) {
        for (int h : hands[deed]) {
            if (h == hand) {
                return true;
            }
        }
        return false;
    }

    /** Numbers of all DEEDS that STAND. */
    List<Integer> standing() {
        List<Integer> found = new ArrayList<>();
        for (int deed = 0; deed < deeds; deed++) {
            if (stands[deed]) {
                found.add(deed);
            }
        }
        return found;
    }

    /** So many of them at most, by number. */
    List<Integer> some(int most) {
        List<Integer> found = standing();
        while (found.size() > most) {
            found.remove(random.nextInt(found.size()));
        }
        return found;
    }

    /** STEPS of all HANDS, each as two DEEDS. */
    int[][] steps() {
        List<int[]> found = new ArrayList<>();
        for (int hand = 0; hand < home.length; hand++) {
            int itsHand = hand;
            List<Integer> own = new ArrayList<>(standing().stream().filter(deed -> isOf(deed, itsHand)).toList());
            own.sort((a, b) -> from[a] != from[b] ? from[a] - from[b] : a - b);
            for (int k = 1; k < own.size(); k++) {
                found.add(new int[] {own.get(k - 1), own.get(k)});
            }
        }
        return found.toArray(new int[0][]);
    }

    static long set(List<Integer> members) {
        long set = 0;
        for (int member : members) {
            set |= 1L << member;
        }
        return set;
    }
}
