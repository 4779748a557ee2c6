/** The bounds of promises 1 to 6: a new object, HOURS, PLACES, MARKS, HANDS, OFFICERS. */
public final class LandBoundsTest {
    private static final Ledger LEDGER = new Ledger();
    private static final Ledger.Story NEW = x -> { };

    public static void main(String[] args) {
        newObject();
        hours();
        places();
        marks();
        hands();
        officers();
        LEDGER.end();
    }

    private static void newObject() {
        LEDGER.promise("1");
        for (int k = 0; k <= 12; k++) {
            int what = k;
            LEDGER.due("number(" + what + ") of nothing", NEW, x -> x.number(what), 0);
        }
        LEDGER.due("no FAULT at first", NEW, x -> x.fault(0), 0);
        LEDGER.due("no place of a FAULT at first", NEW, x -> x.fault(1), -1);
        LEDGER.due("no MAP came true", NEW, x -> x.record(true), 0);
        LEDGER.due("no MAP didn't", NEW, x -> x.record(false), 0);
        LEDGER.due("BOUND of nothing", NEW, x -> x.bound(true), 0);
        LEDGER.due("MOVES of nothing", NEW, x -> x.moves(0, 0), 0);
        LEDGER.due("homes of nothing", NEW, x -> x.homes(198, true), 0);
        LEDGER.due("not of homes either", NEW, x -> x.homes(198, false), 0);
        LEDGER.due("ask of nothing", NEW, x -> x.ask(0, 0, 0), -1);
        LEDGER.idle("no byte of an empty tape", NEW, x -> x.text(0), 0);
        LEDGER.refused("one byte of an empty tape", NEW, x -> x.text(1), Ledger.ARGUMENT);
        for (int k = 0; k < 4; k++) {
            int tray = k;
            LEDGER.refused("write to TRAY " + tray, NEW, x -> x.write(tray, 0, 0), Ledger.STATE);
        }
        nothingIsThere();
    }

    private static void nothingIsThere() {
        refusedAtFirst("hand", x -> x.hand(0), Ledger.NO_SUCH);
        refusedAtFirst("deed", x -> x.deed(0, 0, 0), Ledger.NO_SUCH);
        refusedAtFirst("tell", x -> x.tell(0, 0, 0), Ledger.NO_SUCH);
        refusedAtFirst("state", x -> x.state(0, 0, true), Ledger.NO_SUCH);
        refusedAtFirst("doubt", x -> x.doubt(0, true), Ledger.NO_SUCH);
        refusedAtFirst("solve", Ledger.does(x -> x.solve(0, -1, -1)), Ledger.NO_SUCH);
        refusedAtFirst("bar", x -> x.bar(0, 0), Ledger.NO_SUCH);
        refusedAtFirst("are", x -> x.are(0, 0), Ledger.NO_SUCH);
        refusedAtFirst("link", x -> x.link(0, 0, 0), Ledger.NO_SUCH);
        refusedAtFirst("right", x -> x.right(0, true), Ledger.NO_SUCH);
        refusedAtFirst("forget", Ledger.does(x -> x.forget(0)), Ledger.NO_SUCH);
        refusedAtFirst("count", x -> x.count(0, true, 9, true), Ledger.NO_SUCH);
        refusedAtFirst("span", x -> x.span(0, true, 9, true, true), Ledger.NO_SUCH);
        refusedAtFirst("weight", x -> x.weight(0, 0, true), Ledger.NO_SUCH);
        refusedAtFirst("parent", x -> x.parent(0, true), Ledger.NO_SUCH);
        refusedAtFirst("worth", x -> x.worth(0, 0, true), Ledger.NO_SUCH);
        refusedAtFirst("by", x -> x.by(0, 0, 0, true), Ledger.NO_SUCH);
        refusedAtFirst("best", x -> x.best(3, true), Ledger.ARGUMENT);
        refusedAtFirst("part", x -> x.part(3, true, 0), Ledger.ARGUMENT);
        refusedAtFirst("near", x -> x.near(3, true, 0), Ledger.ARGUMENT);
        refusedAtFirst("sure", x -> x.sure(3, true, 0, 0, 1), Ledger.ARGUMENT);
        refusedAtFirst("joined", x -> x.joined(0, true), Ledger.NO_SUCH);
        refusedAtFirst("changes", x -> x.changes(0, 9, 9, true), Ledger.NO_SUCH);
        refusedAtFirst("share", x -> x.share(0, 9, 0), Ledger.NO_SUCH);
        refusedAtFirst("likely", x -> x.likely(0, 9, 0), Ledger.NO_SUCH);
        refusedAtFirst("keep", x -> x.keep(0, 9, 0), Ledger.NO_SUCH);
        refusedAtFirst("came", x -> x.came(0, 0), Ledger.NO_SUCH);
        refusedAtFirst("stopped", x -> x.stopped(0, true), Ledger.NO_SUCH);
        refusedAtFirst("guess", x -> x.guess(1), Ledger.ARGUMENT);
        refusedAtFirst("look", x -> x.look(3, true, 0, 0), Ledger.ARGUMENT);
        refusedAtFirst("others", x -> x.others(0, 0, true, true), Ledger.NO_SUCH);
        refusedAtFirst("lots", x -> x.lots(0, 0, -1, 0, true), Ledger.NO_SUCH);
        refusedAtFirst("may", x -> x.may(0, 0), Ledger.NO_SUCH);
        refusedAtFirst("kept", x -> x.kept(0), Ledger.NO_SUCH);
        refusedAtFirst("take", x -> x.take(0, 0), Ledger.NO_SUCH);
        refusedAtFirst("check", x -> x.check(3, true, 0), Ledger.ARGUMENT);
    }

    private static void refusedAtFirst(String name, Ledger.Call call, Class<?> by) {
        LEDGER.refused(name + " on a new object", NEW, call, by);
    }

    /** Goes on to an HOUR from 0. */
    private static Ledger.Story hour(int hour) {
        return x -> {
            int left = hour;
            while (left > 0) {
                int hours = Math.min(10000, left);
                x.go(hours);
                left -= hours;
            }
        };
    }

    private static void hours() {
        LEDGER.promise("2");
        LEDGER.due("1 HOUR", NEW, x -> x.go(1) + x.number(0), 1);
        LEDGER.due("10,000 HOURS at once", NEW, x -> x.go(10000) + x.number(0), 10000);
        LEDGER.refused("0 HOURS", NEW, x -> x.go(0), Ledger.ARGUMENT);
        LEDGER.refused("-1 HOURS", NEW, x -> x.go(-1), Ledger.ARGUMENT);
        LEDGER.refused("10,001 HOURS", NEW, x -> x.go(10001), Ledger.ARGUMENT);
        LEDGER.refused("as many as an int has", NEW, x -> x.go(Integer.MAX_VALUE), Ledger.ARGUMENT);
        LEDGER.refused("as few as an int has", NEW, x -> x.go(Integer.MIN_VALUE), Ledger.ARGUMENT);
        LEDGER.due("to 99,999 by 10,000", hour(89999), x -> x.go(10000) + x.number(0), 99999);
        LEDGER.refused("to 100,000 by 10,000", hour(90000), x -> x.go(10000), Ledger.STATE);
        LEDGER.due("to 99,999 by 1", hour(99998), x -> x.go(1) + x.number(0), 99999);
        LEDGER.refused("to 100,000 by 1", hour(99999), x -> x.go(1), Ledger.STATE);
        LEDGER.refused("to 100,000 by 2", hour(99998), x -> x.go(2), Ledger.STATE);
        LEDGER.refused("not so many, and above 99,999", hour(99999), x -> x.go(10001), Ledger.ARGUMENT);
        LEDGER.refused("0 at the last HOUR", hour(99999), x -> x.go(0), Ledger.ARGUMENT);
        forgetting();
    }

    /** A DEED is FORGOTTEN when its age comes to its KEEP; a call that throws makes nothing older. */
    private static void forgetting() {
        Ledger.Story keeps = hour(90000).then(Houses.house(0, 0, 0)).then(x -> {
            x.deed(0, 0, 0);
            x.go(1);
            x.deed(0, 0, 0);
            Houses.text(x, "keep 100;");
        });
        LEDGER.due("its age stays below KEEP", keeps, x -> x.go(98) + 10 * x.number(6), 20);
        LEDGER.due("its age comes to KEEP", keeps, x -> x.go(99) + 10 * x.number(6), 11);
        LEDGER.due("both come to it", keeps, x -> x.go(100) + 10 * x.number(6), 2);
        LEDGER.due("numbers stay", keeps.then(x -> x.go(100)), x -> x.number(5), 2);
        Ledger.Story some = Houses.house(0, 1, 4).then(Houses.rights("keep 5 if solved=0;")).then(x -> x.solve(0, 0, 0))
                .then(x -> x.solve(2, 0, 0));
        LEDGER.due("those whose KEEP it is alone", some.then(x -> x.go(5)), x -> x.go(1) * 10 + x.number(6), 2);
        LEDGER.due("how many of them", some, x -> x.go(5), 2);
        LEDGER.due("the others are there", some.then(x -> x.go(5)), x -> x.are(0, 2), 1);
        LEDGER.due("age is by TOLD of each", x -> {
            x.place(0, 0, 0);
            x.deed(0, 0, 0);
            x.go(10);
            x.deed(0, 0, 0);
            x.deed(0, 5, 5);
            x.go(3);
            x.deed(0, 0, 0);
            Houses.text(x, "keep 5 if age<10; keep 99 if age>9;");
        }, x -> 100 * x.go(1) + 10 * x.go(1) + x.go(2), 20);
        LEDGER.refused("a go that throws", keeps, x -> x.go(10000), Ledger.STATE);
        LEDGER.due("none go twice", keeps.then(x -> x.go(100)), x -> x.go(1000), 0);
        Ledger.Story untilEver = Houses.house(0, 0, 1).then(Houses.rights("keep 99999;"));
        LEDGER.due("KEEP of 99,999 is above every age", untilEver.then(hour(99899)), x -> x.number(6), 1);
        Ledger.Story fromZero = x -> {
            x.place(0, 0, 0);
            x.deed(0, 0, 0);
            Houses.text(x, "keep 99999;");
            hour(99998).on(x);
        };
        LEDGER.due("at the age of 99,998", fromZero, x -> x.number(6), 1);
        LEDGER.due("at the age of 99,999", fromZero, x -> x.go(1), 1);
    }

    private static Ledger.Story places(int many) {
        return x -> {
            for (int k = 0; k < many; k++) {
                x.place(k, 99 - k, k % 6);
            }
        };
    }

    private static void places() {
        LEDGER.promise("3");
        LEDGER.due("the first one", NEW, x -> x.place(0, 0, 0), 0);
        LEDGER.due("x, y, LAND at their greatest", NEW, x -> x.place(99, 99, 5), 0);
        LEDGER.due("the 30th", places(29), x -> x.place(0, 0, 0), 29);
        LEDGER.due("thirty of them", places(29), x -> x.place(0, 0, 0) + x.number(1), 59);
        LEDGER.idle("a 31st", places(30), x -> x.place(0, 0, 0), -1);
        LEDGER.refused("a wrong 31st", places(30), x -> x.place(0, 0, 6), Ledger.ARGUMENT);
        for (int k : new int[] {-1, 100, Integer.MIN_VALUE, Integer.MAX_VALUE}) {
            LEDGER.refused("x " + k, NEW, x -> x.place(k, 0, 0), Ledger.ARGUMENT);
            LEDGER.refused("y " + k, NEW, x -> x.place(0, k, 0), Ledger.ARGUMENT);
        }
        for (int k : new int[] {-1, 6, Integer.MIN_VALUE, Integer.MAX_VALUE}) {
            LEDGER.refused("LAND " + k, NEW, x -> x.place(0, 0, k), Ledger.ARGUMENT);
        }
        LEDGER.due("a DEED at the 30th", places(30), x -> x.deed(29, 0, 0), 0);
        LEDGER.refused("a DEED at a 31st", places(30), x -> x.deed(30, 0, 0), Ledger.NO_SUCH);
        LEDGER.refused("a DEED at the next one", places(29), x -> x.deed(29, 0, 0), Ledger.NO_SUCH);
    }

    private static Ledger.Story marks(int many) {
        return x -> {
            x.place(0, 0, 0);
            x.deed(0, 0, 0);
            for (int k = 0; k < many; k++) {
                x.mark();
            }
        };
    }

    private static void marks() {
        LEDGER.promise("4");
        LEDGER.due("the first one", NEW, x -> x.mark(), 0);
        LEDGER.due("the 16th", marks(15), x -> x.mark(), 15);
        LEDGER.idle("a 17th", marks(16), x -> x.mark(), -1);
        LEDGER.due("sixteen of them", marks(16).then(x -> x.mark()), x -> x.number(2), 16);
        LEDGER.due("a STATE of the 16th", marks(16), x -> x.tell(0, 15, 2) + x.state(0, 15, false), 2);
        LEDGER.refused("a STATE of a 17th", marks(16), x -> x.tell(0, 16, 2), Ledger.NO_SUCH);
        LEDGER.refused("a STATE of the next one", marks(15), x -> x.tell(0, 15, 2), Ledger.NO_SUCH);
    }

    private static Ledger.Story hands(int many) {
        return x -> {
            x.place(0, 0, 0);
            x.deed(0, 0, 0);
            for (int k = 0; k < many; k++) {
                x.hand(k % 2 - 1);
            }
        };
    }

    private static void hands() {
        LEDGER.promise("5");
        LEDGER.due("without a HOME, without a PLACE", NEW, x -> x.hand(-1), 0);
        LEDGER.refused("HOME 0 without a PLACE", NEW, x -> x.hand(0), Ledger.NO_SUCH);
        LEDGER.due("HOME at the last PLACE", places(30), x -> x.hand(29), 0);
        LEDGER.refused("HOME behind the last PLACE", places(30), x -> x.hand(30), Ledger.NO_SUCH);
        LEDGER.refused("HOME at the next PLACE", places(29), x -> x.hand(29), Ledger.NO_SUCH);
        LEDGER.refused("HOME -2", places(30), x -> x.hand(-2), Ledger.NO_SUCH);
        LEDGER.refused("HOME far below", places(30), x -> x.hand(Integer.MIN_VALUE), Ledger.NO_SUCH);
        LEDGER.due("the 20th", hands(19), x -> x.hand(0), 19);
        LEDGER.idle("a 21st", hands(20), x -> x.hand(0), -1);
        LEDGER.idle("a 21st without a HOME", hands(20), x -> x.hand(-1), -1);
        LEDGER.refused("a wrong 21st", hands(20), x -> x.hand(1), Ledger.NO_SUCH);
        LEDGER.due("twenty of them", hands(20).then(x -> x.hand(0)), x -> x.number(3), 20);
        LEDGER.due("SOLVED by the 20th", hands(20), Ledger.does(x -> x.solve(0, 19, 19)), "nothing");
        LEDGER.refused("SOLVED by a 21st", hands(20), Ledger.does(x -> x.solve(0, 20, 20)), Ledger.NO_SUCH);
        LEDGER.refused("SOLVED by the next one", hands(19), Ledger.does(x -> x.solve(0, 19, 19)), Ledger.NO_SUCH);
    }

    private static Ledger.Story officers(int many) {
        return x -> {
            x.place(0, 0, 0);
            x.deed(0, 0, 0);
            x.deed(0, 0, 0);
            for (int k = 0; k < many; k++) {
                x.officer(k % 6, k);
            }
        };
    }

    private static void officers() {
        LEDGER.promise("6");
        LEDGER.due("LAND 0, RANK 0", NEW, x -> x.officer(0, 0), 0);
        LEDGER.due("LAND 5, RANK 9", NEW, x -> x.officer(5, 9), 0);
        for (int k : new int[] {-1, 6, Integer.MIN_VALUE, Integer.MAX_VALUE}) {
            LEDGER.refused("LAND " + k, NEW, x -> x.officer(k, 0), Ledger.ARGUMENT);
        }
        for (int k : new int[] {-1, 10, Integer.MIN_VALUE, Integer.MAX_VALUE}) {
            LEDGER.refused("RANK " + k, NEW, x -> x.officer(0, k), Ledger.ARGUMENT);
        }
        LEDGER.due("the 10th", officers(9), x -> x.officer(0, 0), 9);
        LEDGER.idle("an 11th", officers(10), x -> x.officer(0, 0), -1);
        LEDGER.refused("a wrong 11th", officers(10), x -> x.officer(0, 10), Ledger.ARGUMENT);
        LEDGER.due("ten of them", officers(10).then(x -> x.officer(0, 0)), x -> x.number(4), 10);
        LEDGER.due("a LINK by the 10th", officers(10), x -> x.link(9, 0, 1), 1);
        LEDGER.refused("a LINK by an 11th", officers(10), x -> x.link(10, 0, 1), Ledger.NO_SUCH);
        LEDGER.refused("a LINK by the next one", officers(9), x -> x.link(9, 0, 1), Ledger.NO_SUCH);
        LEDGER.due("RANK is as it was said", officers(10).then(Houses.rights("let if rank=9;")), x -> x.may(9, 0), true);
        LEDGER.due("LAND is as it was said", officers(10).then(Houses.rights("let if land=1;")), x -> x.may(6, 0), true);
        LEDGER.due("another LAND", officers(10).then(Houses.rights("let if land=1;")), x -> x.may(7, 0), false);
    }
}
