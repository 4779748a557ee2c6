import java.util.Map;
import java.util.Random;
import java.util.Set;
import java.util.TreeMap;
import java.util.function.Supplier;

/** Long runs of calls, each answered by OneHand and by the plain Model alike; the seeds are fixed. */
public final class AgainstModelTest {
    private static final int[] WILD = {-1, -2, Integer.MIN_VALUE, Integer.MAX_VALUE, 64, 63, 100, 1000000, 99999};
    private static final String[] WORDS = {"let", "bar", "keep", "if", "and", "or", "not", "rank", "land", "age",
        "solved", "doubted", "there", "links", ";", "<", ">", "=", "+", "-", "*", "(", ")", "[", "]", "0", "7",
        "99999", "123456", "rankk", "A", "\u00e9", "lets"};

    private static final Set<String> ALLOWED = Set.of("java.util.NoSuchElementException",
            "java.lang.IllegalArgumentException", "java.lang.IllegalStateException",
            "java.lang.IndexOutOfBoundsException");

    private final Random random;
    private final boolean large;
    private final OneHand real = new OneHand();
    private final Model model = new Model();
    private final StringBuilder told = new StringBuilder();
    private final Map<String, Integer> answers;
    private int calls = 0;
    private int wrong = 0;

    private AgainstModelTest(long seed, boolean large, Map<String, Integer> answers) {
        random = new Random(seed);
        this.large = large;
        this.answers = answers;
    }

    public static void main(String[] args) {
        int runs = args.length > 0 ? Integer.parseInt(args[0]) : 300;
        int first = args.length > 1 ? Integer.parseInt(args[1]) : 0;
        Map<String, Integer> answers = new TreeMap<>();
        for (int seed = first; seed < first + runs; seed++) {
            AgainstModelTest test = new AgainstModelTest(seed, seed % 40 == 39, answers);
            test.run();
            if (test.wrong > 0) {
                System.out.println("seed " + seed + " differs:\n" + test.told);
                System.exit(1);
            }
        }
        if (args.length > 2) {
            answers.forEach((call, many) -> System.out.println(call + " " + many));
        }
        System.out.println(runs + " runs are answered as the model answers");
    }

    // ---- one call

    private static String answer(Supplier<Object> call) {
        try {
            return String.valueOf(call.get());
        } catch (RuntimeException e) {
            return e.getClass().getName();
        }
    }

    private void same(String call, Supplier<Object> ofReal, Supplier<Object> ofModel) {
        if (calls >= 512 || wrong > 0) {
            return;
        }
        calls++;
        String is = answer(ofReal);
        String due = answer(ofModel);
        told.append(call).append(" -> ").append(is).append('\n');
        String sort = call.substring(0, call.indexOf('(')) + (due.startsWith("java") ? " " + due
                : due.equals("-1") || due.equals("0") || due.equals("-3") ? " " + due : " else");
        answers.merge(sort, 1, Integer::sum);
        if (!is.equals(due) || is.startsWith("java") && !ALLOWED.contains(is)) {
            wrong++;
            told.append("  due is ").append(due).append('\n');
        }
    }

    // ---- arguments

    private boolean chance(int percent) {
        return random.nextInt(100) < percent;
    }

    /** Mostly 0 to below a bound, at times something else. */
    private int below(int bound) {
        if (bound <= 0 || chance(2)) {
            return chance(50) ? bound : WILD[random.nextInt(WILD.length)];
        }
        return random.nextInt(bound);
    }

    /** Mostly a DEED that is not FORGOTTEN. */
    private int deed() {
        int deed = below(model.number(5));
        for (int k = 0; k < 20 && chance(97) && answer(() -> model.are(deed, deed)).contains("NoSuch"); k++) {
            int other = below(model.number(5));
            if (answer(() -> model.are(other, other)).contains("Illegal")) {
                return other;
            }
        }
        return deed;
    }

    private int place() {
        return below(model.number(1));
    }

    private int mark() {
        return below(model.number(2));
    }

    private int hand() {
        return below(model.number(3));
    }

    private int officer() {
        return below(model.number(4));
    }

    private boolean flag() {
        return random.nextBoolean();
    }

    private int t() {
        return chance(40) ? 0 : chance(80) ? below(200) : below(1000002);
    }

    private long set(int most) {
        if (chance(2)) {
            return random.nextLong();
        }
        long set = 0;
        int due = 1 + random.nextInt(most);
        for (int k = 0; k < 60 && Long.bitCount(set) < due; k++) {
            int d = random.nextInt(Math.max(1, model.number(5)));
            int deed = d;
            boolean stands = answer(() -> model.stopped(deed, false)).length() < 6;
            if (stands || chance(1)) {
                set |= 1L << d;
            }
        }
        return set;
    }

    // ---- runs

    private void run() {
        int size = large ? 3 : 1;
        if (random.nextInt(3) == 0) {
            settleRichly();
        } else {
            settle(size);
        }
        while (calls < 512 && wrong == 0) {
            int what = random.nextInt(100);
            if (what < 3) {
                settleMore();
            } else if (what < 50) {
                change();
            } else if (what < 95) {
                ask();
            } else {
                rights();
            }
        }
    }

    private void settle(int size) {
        int places = 1 + random.nextInt(large ? 32 : 6);
        for (int k = 0; k < places; k++) {
            newPlace();
        }
        int marks = random.nextInt(large ? 18 : 6);
        for (int k = 0; k < marks; k++) {
            same("mark()", real::mark, model::mark);
        }
        int hands = random.nextInt(large ? 22 : 5);
        for (int k = 0; k < hands; k++) {
            newHand();
        }
        int officers = random.nextInt(large ? 12 : 4);
        for (int k = 0; k < officers; k++) {
            newOfficer();
        }
        go();
        int deeds = random.nextInt(large ? 70 : 12);
        for (int k = 0; k < deeds; k++) {
            newDeed();
        }
        for (int k = 0; k < deeds; k++) {
            if (chance(60)) {
                solve();
            }
        }
        for (int k = 0; k < deeds * marks * size / 2; k++) {
            if (calls < 350) {
                tell();
            }
        }
    }

    /** Few DEEDS of few HANDS with nearly all MARKS told, each HAND with ways of its own. */
    private void settleRichly() {
        for (int k = 0; k < 4; k++) {
            newPlace();
        }
        int marks = 2 + random.nextInt(4);
        for (int k = 0; k < marks; k++) {
            same("mark()", real::mark, model::mark);
        }
        for (int k = 0; k < 3; k++) {
            newHand();
            newOfficer();
        }
        go();
        for (int k = 0; k < 10; k++) {
            newDeed();
        }
        for (int d = 0; d < model.number(5); d++) {
            int deed = d;
            int hand = random.nextInt(3);
            if (chance(75)) {
                same("solve(" + deed + ", " + hand + ", " + hand + ")",
                        () -> nothing(() -> real.solve(deed, hand, hand)),
                        () -> nothing(() -> model.solve(deed, hand, hand)));
            }
            for (int m = 0; m < marks; m++) {
                int mark = m;
                int state = chance(90) ? 1 + (hand * 5 + m * 3 + (chance(20) ? 1 : 0)) / 2 % 2 : random.nextInt(4);
                same("tell(" + deed + ", " + mark + ", " + state + ")", () -> real.tell(deed, mark, state),
                        () -> model.tell(deed, mark, state));
            }
        }
    }

    private void settleMore() {
        switch (random.nextInt(4)) {
            case 0 -> newPlace();
            case 1 -> same("mark()", real::mark, model::mark);
            case 2 -> newHand();
            default -> newOfficer();
        }
    }

    private void newPlace() {
        int across = chance(50) ? 100 : 12;
        int x = below(across);
        int y = below(across);
        int land = below(6);
        same("place(" + x + ", " + y + ", " + land + ")", () -> real.place(x, y, land), () -> model.place(x, y, land));
    }

    private void newHand() {
        int home = chance(30) ? -1 : place();
        same("hand(" + home + ")", () -> real.hand(home), () -> model.hand(home));
    }

    private void newOfficer() {
        int land = below(6);
        int rank = below(10);
        same("officer(" + land + ", " + rank + ")", () -> real.officer(land, rank), () -> model.officer(land, rank));
    }

    private void newDeed() {
        int place = place();
        int now = model.number(0);
        int from = chance(50) ? below(now + 1) : Math.max(0, now - random.nextInt(60));
        int to = chance(3) ? from - 1 : Math.min(now + (chance(2) ? 1 : 0), from + random.nextInt(20));
        same("deed(" + place + ", " + from + ", " + to + ")", () -> real.deed(place, from, to),
                () -> model.deed(place, from, to));
    }

    private void go() {
        int hours = chance(60) ? 1 + random.nextInt(60) : chance(95) ? 1 + random.nextInt(900) : below(10002);
        same("go(" + hours + ")", () -> real.go(hours), () -> model.go(hours));
    }

    private void tell() {
        int deed = deed();
        int mark = mark();
        int state = chance(85) ? 1 + random.nextInt(2) : below(4);
        same("tell(" + deed + ", " + mark + ", " + state + ")", () -> real.tell(deed, mark, state),
                () -> model.tell(deed, mark, state));
    }

    private void solve() {
        int deed = deed();
        int one = chance(10) ? -1 : hand();
        int other = chance(75) ? one : hand();
        same("solve(" + deed + ", " + one + ", " + other + ")", () -> nothing(() -> real.solve(deed, one, other)),
                () -> nothing(() -> model.solve(deed, one, other)));
    }

    private void change() {
        int a = deed();
        int b = deed();
        int what = random.nextInt(100);
        if (what < 40) {
            tell();
        } else if (what < 52) {
            newDeed();
        } else if (what < 60) {
            go();
        } else if (what < 75) {
            solve();
        } else if (what < 79) {
            boolean is = chance(30);
            same("doubt(" + a + ", " + is + ")", () -> real.doubt(a, is), () -> model.doubt(a, is));
        } else if (what < 84) {
            same("bar(" + a + ", " + b + ")", () -> real.bar(a, b), () -> model.bar(a, b));
        } else if (what < 89) {
            int o = officer();
            same("link(" + o + ", " + a + ", " + b + ")", () -> real.link(o, a, b), () -> model.link(o, a, b));
        } else if (what < 90) {
            same("forget(" + a + ")", () -> nothing(() -> real.forget(a)), () -> nothing(() -> model.forget(a)));
        } else if (what < 93) {
            int from = chance(70) ? 0 : below(model.number(0) + 2);
            int to = chance(70) ? 99999 : below(100001);
            same("window(" + from + ", " + to + ")", () -> nothing(() -> real.window(from, to)),
                    () -> nothing(() -> model.window(from, to)));
        } else if (what < 96) {
            int soon = below(4);
            int s = chance(70) ? 1 + random.nextInt(10000) : below(10002);
            same("keep(" + a + ", " + soon + ", " + s + ")", () -> real.keep(a, soon, s), () -> model.keep(a, soon, s));
        } else if (what < 98) {
            int map = below(model.number(8));
            same("came(" + map + ", " + a + ")", () -> real.came(map, a), () -> model.came(map, a));
        } else {
            trays();
        }
    }

    private static Object nothing(Runnable call) {
        call.run();
        return "nothing";
    }

    private void trays() {
        int tray = below(4);
        int sort = below(4);
        int many = chance(50) ? random.nextInt(10) : below(42);
        same("tray(" + tray + ", " + sort + ", " + many + ")", () -> nothing(() -> real.tray(tray, sort, many)),
                () -> nothing(() -> model.tray(tray, sort, many)));
        for (int k = 0; k < 3; k++) {
            int place = below(Math.max(1, many));
            long v = chance(60) ? random.nextInt(4) : chance(50) ? random.nextLong() : random.nextInt(600) - 300;
            same("write(" + tray + ", " + place + ", " + v + ")", () -> real.write(tray, place, v),
                    () -> model.write(tray, place, v));
        }
        int deed = deed();
        same("take(" + tray + ", " + deed + ")", () -> real.take(tray, deed), () -> model.take(tray, deed));
        boolean late = flag();
        long set = set(4);
        same("check(" + set + ", " + late + ", " + tray + ")", () -> real.check(set, late, tray),
                () -> model.check(set, late, tray));
        checkFilled(set, late, tray);
    }

    /** Fills a tray with the right WORTHS, but for the last at times, and has it held against the set. */
    private void checkFilled(long set, boolean late, int tray) {
        int many = Long.bitCount(set) * (Long.bitCount(set) - 1) / 2;
        int laid = Math.max(0, many - (chance(30) ? 1 : 0));
        same("tray(" + tray + ", 2, " + laid + ")", () -> nothing(() -> real.tray(tray, 2, laid)),
                () -> nothing(() -> model.tray(tray, 2, laid)));
        int place = 0;
        for (int a = 0; a < 60; a++) {
            for (int b = a + 1; b < 60; b++) {
                if ((set >>> a & set >>> b & 1) != 0 && place < laid) {
                    int one = a;
                    int other = b;
                    int at = place++;
                    String worth = answer(() -> model.worth(one, other, late));
                    long v = worth.startsWith("java") ? 0 : Long.parseLong(worth) + (chance(10) ? 1 : 0);
                    same("write(" + tray + ", " + at + ", " + v + ")", () -> real.write(tray, at, v),
                            () -> model.write(tray, at, v));
                }
            }
        }
        same("check(" + set + ", " + late + ", " + tray + ")", () -> real.check(set, late, tray),
                () -> model.check(set, late, tray));
    }

    private void ask() {
        int what = random.nextInt(5);
        if (what == 0) {
            askState();
        } else if (what == 1) {
            askLikeness();
        } else if (what == 2) {
            askPartings();
        } else if (what == 3) {
            askHands();
        } else {
            askChance();
        }
    }

    private void askState() {
        int a = deed();
        int b = deed();
        int mark = mark();
        int officer = officer();
        int what = random.nextInt(15) - 1;
        boolean is = flag();
        same("state(" + a + ", " + mark + ", " + is + ")", () -> real.state(a, mark, is), () -> model.state(a, mark, is));
        same("are(" + a + ", " + b + ")", () -> real.are(a, b), () -> model.are(a, b));
        same("right(" + officer + ", " + is + ")", () -> real.right(officer, is), () -> model.right(officer, is));
        same("number(" + what + ")", () -> real.number(what), () -> model.number(what));
        same("record(" + is + ")", () -> real.record(is), () -> model.record(is));
    }

    private void askLikeness() {
        int a = deed();
        int b = deed();
        int m = mark();
        int n = mark();
        int o = below(4);
        boolean late = flag();
        boolean one = flag();
        boolean high = flag();
        switch (random.nextInt(6)) {
            case 0 -> same("count(" + m + ", " + one + ", " + o + ", " + late + ")",
                    () -> real.count(m, one, o, late), () -> model.count(m, one, o, late));
            case 1 -> same("span(" + m + ", " + one + ", " + o + ", " + late + ", " + high + ")",
                    () -> real.span(m, one, o, late, high), () -> model.span(m, one, o, late, high));
            case 2 -> same("weight(" + m + ", " + n + ", " + late + ")", () -> real.weight(m, n, late),
                    () -> model.weight(m, n, late));
            case 3 -> same("parent(" + m + ", " + late + ")", () -> real.parent(m, late), () -> model.parent(m, late));
            case 4 -> same("worth(" + a + ", " + b + ", " + late + ")", () -> real.worth(a, b, late),
                    () -> model.worth(a, b, late));
            default -> same("by(" + a + ", " + b + ", " + m + ", " + late + ")", () -> real.by(a, b, m, late),
                    () -> model.by(a, b, m, late));
        }
    }

    private void askPartings() {
        long set = set(chance(2) ? 10 : 6);
        boolean late = flag();
        int t = t();
        int deed = deed();
        int two = chance(90) && Long.bitCount(set) > 1 ? Long.numberOfTrailingZeros(set) : deed();
        int other = chance(90) ? 63 - Long.numberOfLeadingZeros(set | 1) : deed();
        switch (random.nextInt(7)) {
            case 0 -> same("best(" + set + ", " + late + ")", () -> real.best(set, late), () -> model.best(set, late));
            case 1 -> same("part(" + set + ", " + late + ", " + other + ")", () -> real.part(set, late, other),
                    () -> model.part(set, late, other));
            case 2 -> same("near(" + set + ", " + late + ", " + t + ")", () -> real.near(set, late, t),
                    () -> model.near(set, late, t));
            case 3 -> same("sure(" + set + ", " + late + ", " + t + ", " + two + ", " + other + ")",
                    () -> real.sure(set, late, t, two, other), () -> model.sure(set, late, t, two, other));
            case 4 -> same("joined(" + deed + ", " + late + ")", () -> real.joined(deed, late),
                    () -> model.joined(deed, late));
            case 5 -> same("bound(" + late + ")", () -> real.bound(late), () -> model.bound(late));
            default -> same("guess(" + set + ")", () -> real.guess(set), () -> model.guess(set));
        }
    }

    private void askHands() {
        int deed = deed();
        int place = place();
        int mark = mark();
        int far = below(4);
        int soon = below(4);
        int from = chance(95) ? 1 + random.nextInt(2) : below(4);
        int to = chance(95) ? 1 + random.nextInt(2) : below(4);
        int s = chance(80) ? 1 + random.nextInt(10000) : below(10002);
        int within = below(chance(50) ? 200 : 40);
        boolean is = flag();
        switch (random.nextInt(7)) {
            case 0 -> same("moves(" + far + ", " + soon + ")", () -> real.moves(far, soon), () -> model.moves(far, soon));
            case 1 -> same("changes(" + mark + ", " + from + ", " + to + ", " + is + ")",
                    () -> real.changes(mark, from, to, is), () -> model.changes(mark, from, to, is));
            case 2 -> same("share(" + deed + ", " + soon + ", " + place + ")", () -> real.share(deed, soon, place),
                    () -> model.share(deed, soon, place));
            case 3 -> same("likely(" + deed + ", " + soon + ", " + s + ")", () -> real.likely(deed, soon, s),
                    () -> model.likely(deed, soon, s));
            case 4 -> same("stopped(" + deed + ", " + is + ")", () -> real.stopped(deed, is),
                    () -> model.stopped(deed, is));
            default -> same("homes(" + within + ", " + is + ")", () -> real.homes(within, is),
                    () -> model.homes(within, is));
        }
    }

    private void askChance() {
        int deed = deed();
        long set = set(5);
        boolean late = flag();
        boolean all = flag();
        int t = t();
        int what = below(3);
        int w = random.nextInt(300) - 100;
        int seed = chance(97) ? random.nextInt(Integer.MAX_VALUE) : random.nextInt();
        int times = chance(95) ? 1 + random.nextInt(large ? 3 : 20) : below(22);
        switch (random.nextInt(large ? 12 : 3)) {
            case 0 -> same("look(" + set + ", " + late + ", " + t + ", " + what + ")",
                    () -> real.look(set, late, t, what), () -> model.look(set, late, t, what));
            case 1 -> same("others(" + deed + ", " + w + ", " + late + ", " + all + ")",
                    () -> real.others(deed, w, late, all), () -> model.others(deed, w, late, all));
            case 2 -> same("lots(" + deed + ", " + w + ", " + seed + ", " + times + ", " + late + ")",
                    () -> real.lots(deed, w, seed, times, late), () -> model.lots(deed, w, seed, times, late));
            default -> askLikeness();
        }
    }

    // ---- rights

    private void rights() {
        String text = chance(80) ? text() : spoiled(text());
        feed(text.length() > 300 ? text.substring(0, 300) : text);
        int officer = officer();
        int deed = deed();
        int mark = mark();
        int what = below(3);
        same("fault(" + what + ")", () -> real.fault(what), () -> model.fault(what));
        same("may(" + officer + ", " + deed + ")", () -> real.may(officer, deed), () -> model.may(officer, deed));
        same("ask(" + officer + ", " + deed + ", " + mark + ")", () -> real.ask(officer, deed, mark),
                () -> model.ask(officer, deed, mark));
        same("kept(" + deed + ")", () -> real.kept(deed), () -> model.kept(deed));
    }

    private void feed(String text) {
        StringBuilder padded = new StringBuilder(text);
        while (padded.length() % 20 != 0) {
            padded.append(chance(50) ? ' ' : ';');
        }
        for (int k = 0; k < padded.length(); k += 20) {
            int[] v = new int[5];
            for (int i = 0; i < 20; i++) {
                v[i / 4] = v[i / 4] << 8 | padded.charAt(k + i) & 255;
            }
            same("feed(" + v[0] + ", " + v[1] + ", " + v[2] + ", " + v[3] + ", " + v[4] + ")",
                    () -> real.feed(v[0], v[1], v[2], v[3], v[4]), () -> model.feed(v[0], v[1], v[2], v[3], v[4]));
        }
        int n = chance(95) ? text.length() : below(text.length() + 40);
        told.append("  ").append(text.replace('\n', '/')).append('\n');
        same("text(" + n + ")", () -> real.text(n), () -> model.text(n));
    }

    private String text() {
        StringBuilder text = new StringBuilder();
        int lines = chance(90) ? random.nextInt(5) : 11 + random.nextInt(4);
        for (int k = 0; k < lines; k++) {
            int says = random.nextInt(5);
            text.append(says < 2 ? "let" : says < 3 ? "bar" : "keep ");
            if (says >= 3) {
                text.append(chance(70) ? "" + (20 + random.nextInt(chance(10) ? 400 : 99000)) : "900+" + sum(0));
            }
            if (chance(lines > 8 ? 10 : 60)) {
                text.append(" if ").append(test(0));
            }
            text.append(chance(50) ? ";" : " ;\n");
        }
        return text.toString();
    }

    private String test(int depth) {
        return one(depth) + (chance(30) ? (chance(50) ? " and " : " or ") + test(depth) : "");
    }

    private String one(int depth) {
        if (depth < 7 && chance(30)) {
            return chance(50) ? "not " + one(depth + 1) : "[" + test(depth + 1) + "]";
        }
        return sum(depth) + "<>=".charAt(random.nextInt(3)) + sum(depth);
    }

    private String sum(int depth) {
        return item(depth) + (chance(25) ? "+-".charAt(random.nextInt(2)) + sum(depth) : "");
    }

    private String item(int depth) {
        return atom(depth) + (chance(15) ? "*" + item(depth) : "");
    }

    private String atom(int depth) {
        if (depth < 7 && chance(12)) {
            return "(" + sum(depth + 1) + ")";
        }
        return chance(60) ? WORDS[7 + random.nextInt(7)] : "" + random.nextInt(chance(80) ? 4 : 100000);
    }

    /** A TEXT with some place of it taken out or with something put in. */
    private String spoiled(String text) {
        int at = random.nextInt(text.length() + 1);
        int end = Math.min(text.length(), at + random.nextInt(4));
        String in = chance(40) ? "" : " " + WORDS[random.nextInt(WORDS.length)] + " ";
        return text.substring(0, at) + in + text.substring(end);
    }
}
