import java.util.ArrayList;
import java.util.List;

/** An object that is asked again and again answers as a new one that was told the same and is asked once. */
public final class AgainTest {
    private static final Ledger LEDGER = new Ledger();
    private static final List<Ledger.Story> CHANGES = new ArrayList<>();
    private static final List<Ledger.Call> CALLS = new ArrayList<>();

    public static void main(String[] args) {
        LEDGER.promise("2 to 53");
        changes();
        calls();
        for (int part = 0; part < CALLS.size(); part += 15) {
            again(CALLS.subList(part, Math.min(CALLS.size(), part + 15)), part);
        }
        LEDGER.end();
    }

    private static void again(List<Ledger.Call> calls, int first) {
        OneHand x = new OneHand();
        Ledger.Story told = y -> { };
        for (int change = 0; change < CHANGES.size(); change++) {
            CHANGES.get(change).on(x);
            told = told.then(CHANGES.get(change));
            for (int k = 0; k < calls.size(); k++) {
                Ledger.Call call = calls.get(k);
                String due = Ledger.answer(Ledger.made(told), call);
                LEDGER.due("call " + (first + k) + " behind change " + change, x, call, due);
            }
        }
    }

    private static void changes() {
        CHANGES.add(Houses.house(3, 3, 7));
        CHANGES.add(x -> {
            x.officer(0, 0);
            x.place(60, 0, 1);
            Houses.solve(x, 0, 0, 1);
            Houses.solve(x, 1, 2, 4);
        });
        CHANGES.add(x -> Houses.tell(x, 0, 2, 2, 1, 1, 2, 1, 2));
        CHANGES.add(x -> Houses.tell(x, 1, 2, 2, 1, 1, 1, 0, 2));
        CHANGES.add(x -> Houses.tell(x, 2, 1, 2, 1, 2, 1, 2, 0));
        CHANGES.add(x -> {
            x.link(0, 5, 6);
            x.tell(5, 1, 2);
        });
        CHANGES.add(x -> Houses.tell(x, 0, 1, 2, 2, 1));
        CHANGES.add(x -> Houses.tell(x, 1, 0, 0, 3, 0));
        CHANGES.add(x -> {
            x.solve(2, 0, 1);
            x.deed(1, 90, 90);
            x.solve(7, 1, 1);
        });
        CHANGES.add(x -> x.solve(4, 2, 2));
        CHANGES.add(x -> x.bar(5, 6));
        CHANGES.add(x -> x.solve(7, -1, -1));
        CHANGES.add(x -> x.window(1, 5));
        CHANGES.add(x -> x.doubt(3, true));
        CHANGES.add(x -> x.forget(1));
        CHANGES.add(x -> {
            x.solve(0, -1, -1);
            x.solve(2, -1, -1);
        });
        CHANGES.add(x -> x.doubt(3, false));
        CHANGES.add(Houses.rights("keep 150 if links=0;let if there=2;"));
        CHANGES.add(Houses.rights("keep 130 if links=0;let let"));
        CHANGES.add(x -> x.go(40));
        CHANGES.add(x -> x.go(20));
    }

    private static void calls() {
        for (int what = 0; what <= 12; what++) {
            int w = what;
            CALLS.add(x -> x.number(w));
        }
        for (int mark = 0; mark < 3; mark++) {
            int m = mark;
            CALLS.add(x -> x.parent(m, false));
            CALLS.add(x -> x.parent(m, true));
            CALLS.add(x -> x.count(m, true, 3, false));
            CALLS.add(x -> x.count(m, false, 1, true));
            CALLS.add(x -> x.span(m, false, 2, true, true));
            CALLS.add(x -> x.weight(m, (m + 1) % 3, true));
            CALLS.add(x -> x.changes(m, 2, 2, true));
            CALLS.add(x -> x.by(5, 6, m, true));
        }
        CALLS.add(x -> x.worth(0, 6, false));
        CALLS.add(x -> x.worth(5, 6, true));
        for (long set : new long[] {0b1100001, 0b1110000, 0b111, 0b1110101}) {
            CALLS.add(x -> x.best(set, false));
            CALLS.add(x -> x.part(set, true, 6));
            CALLS.add(x -> x.near(set, true, 100));
            CALLS.add(x -> x.sure(set, true, 100, 5, 6));
            CALLS.add(x -> x.guess(set));
            CALLS.add(x -> x.look(set, false, 100, 0));
            CALLS.add(x -> x.look(set, false, 100, 2));
        }
        for (int deed = 0; deed < 8; deed++) {
            int d = deed;
            CALLS.add(x -> x.joined(d, true));
            CALLS.add(x -> x.stopped(d, false));
            CALLS.add(x -> x.share(d, 3, 0));
            CALLS.add(x -> x.likely(d, 0, 5000));
            CALLS.add(x -> x.others(d, 0, true, false));
            CALLS.add(x -> x.lots(d, 20, 7, 3, true));
            CALLS.add(x -> x.kept(d));
            CALLS.add(x -> x.may(0, d));
        }
        for (int k = 0; k < 16; k++) {
            int far = k / 4;
            int soon = k % 4;
            CALLS.add(x -> x.moves(far, soon));
        }
        CALLS.add(x -> x.bound(false));
        CALLS.add(x -> x.bound(true));
    }
}
