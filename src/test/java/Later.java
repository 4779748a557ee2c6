import java.util.ArrayList;
import java.util.List;

/** What later calls tell of an object: of every call of the face, on new objects of the same story. */
final class Later {
    /** An object answers 512 calls; a story has some 300 of them at most. */
    private static final int CALLS = 150;

    private final Ledger.Story story;
    private final List<String> told = new ArrayList<>();
    private final List<String> names = new ArrayList<>();
    private final List<Ledger.Call> asked = new ArrayList<>();
    private final int places;
    private final int marks;
    private final int hands;
    private final int officers;
    private final int maps;
    private final int fed;
    private final List<Integer> deeds = new ArrayList<>();
    private final List<Long> sets = new ArrayList<>();

    private Later(Ledger.Story story) {
        this.story = story;
        OneHand x = Ledger.made(story);
        places = x.number(1);
        marks = x.number(2);
        hands = x.number(3);
        officers = x.number(4);
        maps = x.number(8);
        fed = x.number(10);
        int many = x.number(5);
        for (int deed = 0; deed < many; deed++) {
            if (deed < 5 || deed > many - 3) {
                deeds.add(deed);
            }
        }
        sets(many);
    }

    static List<String> told(Ledger.Story story) {
        Later later = new Later(story);
        later.askLand();
        later.askDeeds();
        later.askLikeness();
        later.askSets();
        later.askTrails();
        later.askRights();
        later.flush();
        later.goOn();
        return later.told;
    }

    private void sets(int many) {
        OneHand x = Ledger.made(story);
        long standing = 0;
        for (int deed = 0; deed < many; deed++) {
            int d = deed;
            if (!Ledger.answer(x, y -> y.guess(1L << d)).startsWith("Ill")) {
                standing |= 1L << deed;
            }
        }
        for (int most : new int[] {2, 3, 5, 8}) {
            long set = standing;
            while (Long.bitCount(set) > most) {
                set &= set - 1;
            }
            if (Long.bitCount(set) > 1 && !sets.contains(set)) {
                sets.add(set);
            }
        }
    }

    private void ask(String name, Ledger.Call call) {
        names.add(name);
        asked.add(call);
    }

    private void flush() {
        for (int from = 0; from < asked.size(); from += CALLS) {
            OneHand x = Ledger.made(story);
            for (int k = from; k < Math.min(asked.size(), from + CALLS); k++) {
                told.add(names.get(k) + " is " + Ledger.answer(x, asked.get(k)));
            }
        }
    }

    private static int truth(boolean is) {
        return is ? 1 : 0;
    }

    // ---- calls that ask

    private void askLand() {
        for (int k = 0; k <= 12; k++) {
            int what = k;
            ask("number " + what, x -> x.number(what));
        }
        ask("fault 0", x -> x.fault(0));
        ask("fault 1", x -> x.fault(1));
        for (boolean is : new boolean[] {true, false}) {
            ask("record " + is, x -> x.record(is));
            ask("bound " + is, x -> x.bound(is));
            for (int officer = 0; officer < officers; officer++) {
                int o = officer;
                ask("right " + o + is, x -> x.right(o, is));
            }
            for (int within : new int[] {0, 9, 30, 198}) {
                ask("homes " + within + is, x -> x.homes(within, is));
            }
        }
    }

    private void askDeeds() {
        for (int a : deeds) {
            for (int mark = 0; mark < marks; mark++) {
                int m = mark;
                ask("state " + a + " " + m, x -> x.state(a, m, false));
                ask("late state " + a + " " + m, x -> x.state(a, m, true));
            }
            for (int b : deeds) {
                ask("are " + a + " " + b, x -> x.are(a, b));
            }
            ask("others " + a, x -> x.others(a, 0, false, true));
            ask("others " + a + " worth 0", x -> x.others(a, 0, true, false));
            ask("joined " + a, x -> x.joined(a, false));
            ask("stopped " + a, x -> truth(x.stopped(a, true)));
            ask("lots " + a, x -> x.lots(a, 1, 77, 7, true));
        }
    }

    private void askLikeness() {
        for (int mark = 0; mark < Math.min(marks, 4); mark++) {
            int m = mark;
            ask("parent " + m, x -> x.parent(m, false));
            ask("late parent " + m, x -> x.parent(m, true));
            for (int outcome = 0; outcome <= 3; outcome++) {
                int o = outcome;
                ask("one " + m + " " + o, x -> x.count(m, true, o, true));
                ask("two " + m + " " + o, x -> x.count(m, false, o, true));
                ask("early one " + m + " " + o, x -> x.count(m, true, o, false));
                ask("early two " + m + " " + o, x -> x.count(m, false, o, false));
                ask("span " + m + " " + o, x -> x.span(m, false, o, true, true));
                ask("changes " + m + " " + o, x -> x.changes(m, 1 + o % 2, 1 + o / 2, true));
            }
            for (int other = 0; other < Math.min(marks, 4); other++) {
                int n = other;
                ask("weight " + m + " " + n, x -> x.weight(m, n, true));
            }
        }
        for (int a : deeds) {
            for (int b : deeds) {
                if (a < b) {
                    ask("worth " + a + " " + b, x -> x.worth(a, b, false));
                    ask("late worth " + a + " " + b, x -> x.worth(a, b, true));
                    ask("by " + a + " " + b, x -> x.by(a, b, 0, true));
                }
            }
        }
    }

    private void askSets() {
        for (long set : sets) {
            String of = " of " + set;
            ask("guess" + of, x -> x.guess(set));
            ask("best" + of, x -> x.best(set, true));
            ask("near" + of, x -> x.near(set, false, 60));
            for (int what = 0; what <= 2; what++) {
                int w = what;
                ask("look " + w + of, x -> x.look(set, true, 60, w));
            }
            for (int a : deeds) {
                ask("part of " + a + of, x -> x.part(set, false, a));
                ask("sure of " + a + of, x -> x.sure(set, true, 60, a, deeds.get(deeds.size() - 1)));
            }
            for (int tray = 0; tray < 4; tray++) {
                int t = tray;
                ask("check " + t + of, x -> x.check(set, true, t));
            }
        }
    }

    private void askTrails() {
        for (int k = 0; k < 16; k++) {
            int far = k / 4;
            int soon = k % 4;
            ask("moves " + far + " " + soon, x -> x.moves(far, soon));
        }
        for (int a : deeds) {
            for (int soon = 0; soon < 4; soon++) {
                int s = soon;
                ask("share " + a + " " + s, x -> x.share(a, s, 0));
                ask("likely " + a + " " + s, x -> x.likely(a, s, 5000));
            }
        }
    }

    private void askRights() {
        for (int a : deeds) {
            ask("kept " + a, x -> x.kept(a));
            for (int officer = 0; officer < Math.min(officers, 3); officer++) {
                int o = officer;
                ask("may " + o + " " + a, x -> truth(x.may(o, a)));
                ask("ask " + o + " " + a, x -> x.ask(o, a, 0));
            }
        }
    }

    // ---- calls that change something, each row on an object of its own

    private void row(Ledger.Call... calls) {
        OneHand x = Ledger.made(story);
        StringBuilder row = new StringBuilder("row " + told.size() + " is");
        for (Ledger.Call call : calls) {
            row.append(' ').append(Ledger.answer(x, call));
        }
        told.add(row.toString());
    }

    private void goOn() {
        row(x -> x.place(1, 1, 1), x -> x.mark(), x -> x.hand(-1), x -> x.officer(1, 1), x -> x.number(1),
                x -> x.number(2), x -> x.number(3), x -> x.number(4));
        row(x -> x.deed(0, 0, 0), x -> x.deed(0, x.number(0), x.number(0)), x -> x.number(5), x -> x.kept(0));
        row(x -> x.go(1), x -> x.go(1000), x -> x.number(6), x -> x.go(10000), x -> x.number(6));
        row(x -> x.hand(places - 1), x -> x.hand(places), Ledger.does(x -> x.solve(0, hands, hands)), x -> x.number(11));
        for (int a : deeds) {
            row(x -> x.keep(a, 1, 3000), x -> x.number(8), x -> x.record(true));
            row(x -> x.doubt(a, true), x -> x.number(6), x -> x.number(12), x -> x.doubt(a, false));
            row(x -> x.tell(a, 0, 2), x -> x.state(a, 0, false), x -> x.state(a, 0, true));
            for (int b : deeds) {
                row(x -> x.bar(a, b), x -> x.link(0, a, b), x -> x.number(7), x -> x.right(0, false));
            }
            for (int map = 0; map < Math.min(maps, 3); map++) {
                int m = map;
                row(x -> x.came(m, a), x -> x.record(true), x -> x.record(false));
            }
        }
        trays();
        tape();
    }

    private void trays() {
        for (int tray = 0; tray < 4; tray++) {
            int t = tray;
            row(x -> x.write(t, 0, 0x8765432187654321L), x -> x.write(t, 4, 1), x -> x.write(t, 39, 1));
            for (int k = 1; k <= 40; k++) {
                int place = k - 1;
                row(x -> x.write(t, place, 7));
            }
            if (!deeds.isEmpty()) {
                int last = deeds.get(deeds.size() - 1);
                List<Ledger.Call> calls = new ArrayList<>();
                calls.add(x -> x.take(t, last));
                for (int mark = 0; mark < marks; mark++) {
                    int m = mark;
                    calls.add(x -> x.state(last, m, true));
                }
                row(calls.toArray(new Ledger.Call[0]));
            }
        }
    }

    private void tape() {
        for (int n = 0; n <= fed; n += n < 40 ? 1 : 20) {
            int first = n;
            row(x -> x.text(first), x -> x.fault(0), x -> x.fault(1), x -> x.number(9), x -> x.number(10),
                    x -> x.kept(0));
        }
        row(x -> x.text(fed + 1), x -> x.feed(1, 2, 3, 4, 5), x -> x.text(fed + 4), x -> x.fault(1));
    }
}
