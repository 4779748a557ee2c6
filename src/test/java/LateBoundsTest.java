/**
 * A STATE that is told behind a LINK counts where LATE ones are asked for, and nowhere else: with them a call answers
 * as if all had been told ahead of the LINK, without them as if what is LATE had not been told.
 */
public final class LateBoundsTest {
    private static final Ledger LEDGER = new Ledger();

    /** DEEDS of two HANDS and two of none, all with LINKS. */
    private static final Ledger.Story DEEDS = Houses.house(3, 2, 8).then(x -> {
        x.officer(0, 0);
        Houses.solve(x, 0, 0, 2);
        Houses.solve(x, 1, 3, 5);
        x.tray(0, 1, 3);
    });

    private static final Ledger.Story EARLY = x -> {
        Houses.tell(x, 0, 2, 2, 2, 1, 1, 1, 2, 1);
        Houses.tell(x, 1, 2, 2, 1, 1, 2, 1, 0, 1);
        Houses.tell(x, 2, 1, 2, 1, 2, 0, 3, 0, 3);
    };

    private static final Ledger.Story LINKS = x -> {
        for (int deed = 0; deed < 8; deed += 2) {
            x.link(0, deed, deed + 1);
        }
    };

    private static final Ledger.Story LATE = x -> {
        Houses.tell(x, 0, 2, 1, 2, 1, 1, 2, 2, 2);
        x.tell(0, 1, 1);
        x.tell(4, 1, 1);
        x.tell(6, 1, 2);
        x.tell(7, 1, 2);
        x.tell(6, 2, 1);
        x.tell(7, 2, 2);
        x.tell(4, 2, 2);
        x.tell(5, 2, 1);
    };

    private static final Ledger.Story TOLD_LATE = DEEDS.then(EARLY).then(LINKS).then(LATE);
    private static final Ledger.Story TOLD_AHEAD = DEEDS.then(EARLY).then(LATE).then(LINKS);
    private static final Ledger.Story NOT_TOLD = DEEDS.then(EARLY).then(LINKS);

    interface Asked {
        Object on(OneHand x, boolean late);
    }

    private static void same(String promise, String name, Asked call) {
        LEDGER.promise(promise);
        String with = Ledger.answer(Ledger.made(TOLD_AHEAD), x -> call.on(x, false));
        String without = Ledger.answer(Ledger.made(NOT_TOLD), x -> call.on(x, true));
        LEDGER.due(name + ", LATE ones too", TOLD_LATE, x -> call.on(x, true), with);
        LEDGER.due(name + ", none LATE", TOLD_LATE, x -> call.on(x, false), without);
        LEDGER.due(name + ", all told ahead", TOLD_AHEAD, x -> call.on(x, true), with);
        LEDGER.due(name + ", nothing LATE is told", NOT_TOLD, x -> call.on(x, false), without);
        LEDGER.due(name + " differs by LATE ones", TOLD_LATE, x -> with.equals(without), false);
    }

    public static void main(String[] args) {
        same("9", "state", (x, late) -> x.state(7, 0, late));
        same("18", "count", (x, late) -> x.count(0, true, 1, late));
        same("18", "count of BARRED ones", (x, late) -> x.count(2, false, 3, late));
        same("19", "span", (x, late) -> x.span(0, true, 2, late, false));
        same("19", "span", (x, late) -> x.span(0, false, 2, late, true));
        same("20", "weight", (x, late) -> x.weight(0, 1, late));
        same("21", "parent", (x, late) -> 10 * x.parent(1, late) + x.parent(2, late));
        same("22", "worth", (x, late) -> x.worth(0, 1, late));
        same("23", "by", (x, late) -> x.by(6, 7, 2, late));
        same("24", "best", (x, late) -> x.best(0b11000011, late));
        same("25", "part", (x, late) -> 10 * x.part(0b11001001, late, 6) + x.part(0b11001001, late, 7));
        same("26", "near", (x, late) -> x.near(0b11001001, late, 40));
        same("27", "sure", (x, late) -> x.sure(0b11000000, late, 5, 6, 7));
        same("28", "joined", (x, late) -> x.joined(6, late) * 10 + x.joined(7, late));
        same("29", "bound", (x, late) -> x.bound(late));
        same("31", "changes", (x, late) -> x.changes(0, 1, 2, late));
        same("40", "look", (x, late) -> x.look(0b11000000, late, 0, 0) * 10 + x.look(0b11000000, late, 0, 1));
        same("41", "others", (x, late) -> x.others(5, -60, late, false));
        same("42", "lots", (x, late) -> {
            int all = 0;
            for (int w = -200; w <= 200; w += 25) {
                all = 21 * all + x.lots(6, w, 12345, 20, late);
            }
            return all;
        });
        int worth = Ledger.made(TOLD_AHEAD).worth(6, 7, false);
        same("52", "check", (x, late) -> {
            x.write(0, 0, worth);
            return x.check(0b11000000, late, 0);
        });
        always();
        stopped();
        LEDGER.end();
    }

    /** The NAME there and ask are of LATE ones, too. */
    private static void always() {
        LEDGER.promise("8 and 47");
        Ledger.Story rights = TOLD_LATE.then(Houses.rights("let;keep 50+there;"));
        LEDGER.due("what it was", TOLD_LATE, x -> x.tell(7, 2, 0), 2);
        LEDGER.due("ask", rights, x -> x.ask(0, 7, 2), 2);
        LEDGER.due("there", rights, x -> x.kept(7), 53);
        LEDGER.due("LATE ones of a LINK that is gone", rights.then(x -> x.forget(6)), x -> x.kept(7), 53);
    }

    /** DEED 2 is of the HOUR 100 and joins DEED 0 by what is LATE alone. */
    private static void stopped() {
        LEDGER.promise("37");
        Ledger.Story story = Houses.house(1, 2, 0).then(x -> {
            x.officer(0, 0);
            x.deed(0, 0, 0);
            x.deed(0, 20, 20);
            x.deed(0, 100, 100);
            x.deed(0, 0, 0);
            Houses.solve(x, 0, 0, 1);
            Houses.tell(x, 0, 2, 2, 0, 0);
            x.link(0, 2, 3);
            x.tell(2, 0, 2);
        });
        LEDGER.due("without LATE ones", story, x -> x.stopped(0, false), true);
        LEDGER.due("with them", story, x -> x.stopped(0, true), false);
    }
}
