/** The bounds of promises 7 to 17: DEEDS, STATES, LINKS, what two DEEDS are, the WINDOW. */
public final class DeedBoundsTest {
    private static final Ledger LEDGER = new Ledger();

    public static void main(String[] args) {
        deeds();
        states();
        late();
        doubted();
        solved();
        barred();
        apart();
        links();
        rights();
        forgotten();
        window();
        LEDGER.end();
    }

    private static void deeds() {
        LEDGER.promise("7");
        Ledger.Story atZero = x -> x.place(0, 0, 0);
        LEDGER.due("from and to HOUR 0 at HOUR 0", atZero, x -> x.deed(0, 0, 0), 0);
        LEDGER.refused("to HOUR 1 at HOUR 0", atZero, x -> x.deed(0, 0, 1), Ledger.ARGUMENT);
        Ledger.Story none = Houses.house(1, 1, 0);
        LEDGER.due("from HOUR 0 to NOW", none, x -> x.deed(0, 0, 100), 0);
        LEDGER.due("from NOW to NOW", none, x -> x.deed(0, 100, 100), 0);
        LEDGER.refused("to above NOW", none, x -> x.deed(0, 100, 101), Ledger.ARGUMENT);
        LEDGER.refused("from above NOW", none, x -> x.deed(0, 101, 101), Ledger.ARGUMENT);
        LEDGER.refused("to far above NOW", none, x -> x.deed(0, 0, Integer.MAX_VALUE), Ledger.ARGUMENT);
        LEDGER.refused("from -1", none, x -> x.deed(0, -1, 0), Ledger.ARGUMENT);
        LEDGER.refused("from and to -1", none, x -> x.deed(0, -1, -1), Ledger.ARGUMENT);
        LEDGER.refused("from far below", none, x -> x.deed(0, Integer.MIN_VALUE, 0), Ledger.ARGUMENT);
        LEDGER.refused("to below from", none, x -> x.deed(0, 50, 49), Ledger.ARGUMENT);
        LEDGER.refused("at no PLACE", none, x -> x.deed(1, 0, 0), Ledger.NO_SUCH);
        LEDGER.refused("at PLACE -1", none, x -> x.deed(-1, 0, 0), Ledger.NO_SUCH);
        LEDGER.refused("at no PLACE, of no HOURS", none, x -> x.deed(1, 5, 4), Ledger.NO_SUCH);
        Ledger.Story most = Houses.house(1, 1, 59);
        LEDGER.due("the 60th", most, x -> x.deed(0, 0, 0), 59);
        Ledger.Story full = Houses.house(1, 1, 60);
        LEDGER.idle("a 61st", full, x -> x.deed(0, 0, 0), -1);
        LEDGER.refused("a wrong 61st", full, x -> x.deed(0, 0, 101), Ledger.ARGUMENT);
        LEDGER.refused("a 61st at no PLACE", full, x -> x.deed(1, 0, 0), Ledger.NO_SUCH);
        LEDGER.due("a STATE of the 60th", full, x -> x.tell(59, 0, 2) + x.state(59, 0, true), 2);
        LEDGER.refused("a STATE of a 61st", full, x -> x.tell(60, 0, 2), Ledger.NO_SUCH);
        LEDGER.refused("a STATE of the next one", most, x -> x.tell(59, 0, 2), Ledger.NO_SUCH);
        Ledger.Story gone = full.then(x -> {
            for (int deed = 0; deed < 60; deed++) {
                x.forget(deed);
            }
        });
        LEDGER.idle("a 61st when all are FORGOTTEN", gone, x -> x.deed(0, 0, 0), -1);
        LEDGER.due("numbers of the FORGOTTEN stay", gone, x -> x.number(5), 60);
        LEDGER.due("none of them STANDS", gone, x -> x.number(6), 0);
        LEDGER.due("a number is not given again", Houses.house(0, 0, 3).then(x -> x.forget(2)),
                x -> x.deed(0, 0, 0), 3);
        LEDGER.due("TOLD NOW", none.then(x -> x.deed(0, 0, 0)).then(x -> x.go(7)).then(Houses.rights("keep 50+age;")),
                x -> x.kept(0), 57);
    }

    private static void states() {
        LEDGER.promise("8");
        Ledger.Story one = Houses.house(2, 0, 1);
        for (int k = 0; k <= 3; k++) {
            int state = k;
            LEDGER.due("0 at first", one, x -> x.tell(0, 1, state), 0);
            LEDGER.due("STATE " + k, one.then(x -> x.tell(0, 1, state)), x -> x.state(0, 1, false), k);
            LEDGER.due("what it was", one.then(x -> x.tell(0, 1, state)), x -> x.tell(0, 1, 3 - state), k);
            LEDGER.due("another MARK's is as it was", one.then(x -> x.tell(0, 1, state)), x -> x.state(0, 0, true), 0);
        }
        Ledger.Story four = Houses.house(3, 0, 4);
        for (int k = 0; k < 16; k++) {
            int before = k / 4;
            int state = k % 4;
            Ledger.Story told = four.then(x -> Houses.tell(x, 1, before, before, before, before))
                    .then(x -> x.tell(1, 1, state));
            for (int cell = 0; cell < 12; cell++) {
                int deed = cell / 3;
                int mark = cell % 3;
                int due = mark != 1 ? 0 : deed == 1 ? state : before;
                LEDGER.due("STATE " + state + " in place of " + before + ": DEED " + deed + ", MARK " + mark, told,
                        x -> 10 * x.state(deed, mark, false) + x.state(deed, mark, true), 11 * due);
            }
        }
        for (int k : new int[] {-1, 4, Integer.MIN_VALUE, Integer.MAX_VALUE}) {
            LEDGER.refused("STATE " + k, one, x -> x.tell(0, 0, k), Ledger.ARGUMENT);
        }
        LEDGER.refused("no such DEED", one, x -> x.tell(1, 0, 4), Ledger.NO_SUCH);
        LEDGER.refused("no such MARK", one, x -> x.tell(0, 2, 4), Ledger.NO_SUCH);
        LEDGER.promise("9");
        LEDGER.due("0 at first", one, x -> x.state(0, 0, false), 0);
        LEDGER.due("0 at first, LATE ones too", one, x -> x.state(0, 0, true), 0);
        LEDGER.refused("no such DEED", one, x -> x.state(1, 0, false), Ledger.NO_SUCH);
        LEDGER.refused("DEED -1", one, x -> x.state(-1, 0, false), Ledger.NO_SUCH);
        LEDGER.refused("no such MARK", one, x -> x.state(0, 2, false), Ledger.NO_SUCH);
        LEDGER.refused("MARK -1", one, x -> x.state(0, -1, false), Ledger.NO_SUCH);
    }

    private static void late() {
        LEDGER.promise("8 and 9");
        Ledger.Story linked = Houses.house(1, 0, 4).then(x -> {
            x.officer(0, 0);
            x.tell(0, 0, 1);
            x.link(0, 0, 1);
        });
        LEDGER.due("told ahead of the LINK", linked, x -> x.state(0, 0, false), 1);
        Ledger.Story told = linked.then(x -> x.tell(0, 0, 2)).then(x -> x.tell(1, 0, 3)).then(x -> x.tell(2, 0, 2));
        LEDGER.due("what it was, LATE ones too", told, x -> x.tell(0, 0, 1), 2);
        LEDGER.due("told behind the LINK it is LATE", told, x -> x.state(0, 0, true), 2);
        LEDGER.due("what was told last that wasn't LATE", told, x -> x.state(0, 0, false), 1);
        LEDGER.due("0 without one that wasn't LATE", told, x -> x.state(1, 0, false), 0);
        LEDGER.due("of the other DEED of the LINK", told, x -> x.state(1, 0, true), 3);
        LEDGER.due("not LATE without a LINK", told, x -> x.state(2, 0, false), 2);
        Ledger.Story gone = told.then(x -> x.forget(1));
        LEDGER.due("LATE stays so when the LINK is gone", gone, x -> x.state(0, 0, false), 1);
        LEDGER.due("but counts where LATE ones do", gone, x -> x.state(0, 0, true), 2);
        LEDGER.due("not LATE when the LINK is gone", gone.then(x -> x.tell(0, 0, 3)), x -> x.state(0, 0, false), 3);
        LEDGER.due("last for both", gone.then(x -> x.tell(0, 0, 3)), x -> x.state(0, 0, true), 3);
        LEDGER.due("told not LATE, then LATE, then 0 LATE", told.then(x -> x.tell(0, 0, 0)),
                x -> 10 * x.state(0, 0, false) + x.state(0, 0, true), 10);
        Ledger.Story full = linked.then(x -> {
            for (int k = 0; k < 40; k++) {
                x.link(0, 0, 1);
            }
            x.link(0, 2, 3);
            x.tell(2, 0, 1);
        });
        Ledger.Story between = Houses.house(1, 0, 6).then(x -> {
            x.officer(0, 0);
            x.link(0, 2, 3);
            x.link(0, 3, 2);
            for (int deed = 0; deed < 6; deed++) {
                x.tell(deed, 0, 2);
            }
        });
        for (int k = 0; k < 6; k++) {
            int deed = k;
            LEDGER.due("DEED " + k + " with LINKS of 2 and 3", between, x -> x.state(deed, 0, false), k / 2 == 1 ? 0 : 2);
            LEDGER.due("LINKS of DEED " + k, between.then(Houses.rights("keep 5+links;")), x -> x.kept(deed),
                    k / 2 == 1 ? 7 : 5);
        }
        LEDGER.due("a LINK that found no room makes nothing LATE", full, x -> x.state(2, 0, false), 1);
        Ledger.Story refused = linked.then(x -> Ledger.answer(x, y -> y.link(0, 2, 2))).then(x -> x.tell(2, 0, 1));
        LEDGER.due("nor does one that throws", refused, x -> x.state(2, 0, false), 1);
    }

    private static void doubted() {
        LEDGER.promise("10");
        Ledger.Story one = Houses.house(0, 0, 2);
        LEDGER.due("not at first", one, x -> x.doubt(1, true), false);
        LEDGER.due("as it was", one.then(x -> x.doubt(1, true)), x -> x.doubt(1, true), true);
        LEDGER.due("of another DEED", one.then(x -> x.doubt(1, true)), x -> x.doubt(0, false), false);
        LEDGER.idle("not, as it was", one, x -> x.doubt(1, false), false);
        Ledger.Story both = one.then(x -> x.doubt(0, true)).then(x -> x.doubt(1, true));
        LEDGER.due("both are DOUBTED", both, x -> x.number(6), 0);
        LEDGER.due("the first one is so still", both, x -> x.doubt(0, true), true);
        LEDGER.due("the other one is so still", both.then(x -> x.doubt(0, false)), x -> x.doubt(1, true), true);
        LEDGER.due("one of them is not any more", both.then(x -> x.doubt(0, false)), x -> x.number(6), 1);
        LEDGER.alike("DOUBTED and not again", one, one.then(x -> x.doubt(1, true)).then(x -> x.doubt(1, false)), true);
        LEDGER.alike("DOUBTED", one, one.then(x -> x.doubt(1, true)), false);
        LEDGER.refused("no such DEED", one, x -> x.doubt(2, true), Ledger.NO_SUCH);
        LEDGER.refused("DEED -1", one, x -> x.doubt(-1, true), Ledger.NO_SUCH);
    }

    private static void solved() {
        LEDGER.promise("11");
        Ledger.Story three = Houses.house(1, 3, 3).then(x -> x.solve(0, 0, 1));
        LEDGER.due("by two: the first", three.then(x -> x.solve(1, 0, 0)), x -> x.are(0, 1), 1);
        LEDGER.due("by two: the other", three.then(x -> x.solve(1, 1, 1)), x -> x.are(0, 1), 1);
        LEDGER.due("by neither of them", three.then(x -> x.solve(1, 2, 2)), x -> x.are(0, 1), 2);
        LEDGER.due("by none", three, x -> x.are(0, 1), 0);
        LEDGER.due("by both, the other way", three.then(x -> x.solve(1, 1, 0)), x -> x.are(0, 1), 1);
        LEDGER.alike("by none again", Houses.house(1, 3, 3), three.then(x -> x.solve(0, -1, -1)), true);
        LEDGER.due("one of them by none again", three.then(x -> x.solve(1, 2, 2)).then(x -> x.solve(0, -1, -1)),
                x -> x.are(0, 1), 0);
        LEDGER.due("the other one by none again", three.then(x -> x.solve(1, 2, 2)).then(x -> x.solve(1, -1, -1)),
                x -> x.are(0, 1), 0);
        LEDGER.due("one of them by another one", three.then(x -> x.solve(1, 0, 0)).then(x -> x.solve(1, 2, 2)),
                x -> x.are(0, 1), 2);
        Ledger.Story last = Houses.house(1, 20, 3).then(x -> x.solve(0, 19, 18)).then(x -> x.solve(1, 19, 19));
        LEDGER.due("by the 20th HAND", last, x -> 10 * x.are(0, 1) + x.are(1, 0), 11);
        LEDGER.due("not any more by the 20th HAND", last.then(x -> x.solve(0, 18, 18)),
                x -> 10 * x.are(0, 1) + x.are(1, 0), 22);
        LEDGER.due("not any more by any", last.then(x -> x.solve(0, -1, -1)), x -> 10 * x.are(0, 1) + x.are(1, 0), 0);
        LEDGER.alike("by one that is said twice", three.then(x -> x.solve(0, 1, 1)),
                Houses.house(1, 3, 3).then(x -> x.solve(0, 1, 1)), true);
        int[][] wrong = {{3, 0}, {0, 3}, {-2, -2}, {-1, 0}, {0, -1}, {-1, 3}, {3, -1}, {20, 20}, {-1, -2}};
        for (int[] hands : wrong) {
            LEDGER.refused("by " + hands[0] + " and " + hands[1], three,
                    Ledger.does(x -> x.solve(0, hands[0], hands[1])), Ledger.NO_SUCH);
        }
        LEDGER.refused("no such DEED", three, Ledger.does(x -> x.solve(3, 0, 0)), Ledger.NO_SUCH);
        LEDGER.refused("no such DEED, by none", three, Ledger.does(x -> x.solve(-1, -1, -1)), Ledger.NO_SUCH);
    }

    private static void barred() {
        LEDGER.promise("12");
        Ledger.Story three = Houses.house(1, 2, 3);
        LEDGER.due("told to be barred", three, x -> x.bar(0, 1), true);
        LEDGER.idle("they were", three.then(x -> x.bar(0, 1)), x -> x.bar(0, 1), false);
        LEDGER.idle("they were, the other way", three.then(x -> x.bar(0, 1)), x -> x.bar(1, 0), false);
        LEDGER.due("another two", three.then(x -> x.bar(0, 1)), x -> x.bar(1, 2), true);
        LEDGER.due("BARRED, but not told to be", three.then(x -> x.solve(0, 0, 0)).then(x -> x.solve(1, 1, 1)),
                x -> x.bar(0, 1), true);
        LEDGER.refused("both are one", three, x -> x.bar(1, 1), Ledger.ARGUMENT);
        LEDGER.refused("both are one that is none", three, x -> x.bar(3, 3), Ledger.NO_SUCH);
        LEDGER.refused("the other one is none", three, x -> x.bar(0, 3), Ledger.NO_SUCH);
        LEDGER.refused("the first one is none", three, x -> x.bar(-1, 0), Ledger.NO_SUCH);
        LEDGER.promise("13");
        LEDGER.due("neither", three, x -> x.are(0, 1), 0);
        LEDGER.due("told to be barred", three.then(x -> x.bar(2, 0)), x -> x.are(0, 2), 2);
        Ledger.Story told = three.then(x -> x.bar(0, 1)).then(x -> x.solve(0, 0, 0));
        LEDGER.due("one SOLVED alone is not ONE", told, x -> x.are(0, 1), 2);
        LEDGER.due("ONE, so not BARRED", told.then(x -> x.solve(1, 0, 0)), x -> x.are(0, 1), 1);
        LEDGER.due("told stays told", told.then(x -> x.solve(1, 0, 0)).then(x -> x.solve(1, -1, -1)),
                x -> x.are(0, 1), 2);
        LEDGER.due("told, and both SOLVED", told.then(x -> x.solve(1, 1, 1)), x -> x.are(0, 1), 2);
        LEDGER.due("DOUBTED ones as well", told.then(x -> x.doubt(0, true)), x -> x.are(0, 1), 2);
        LEDGER.refused("both are one", three, x -> x.are(2, 2), Ledger.ARGUMENT);
        LEDGER.refused("both are one that is none", three, x -> x.are(3, 3), Ledger.NO_SUCH);
        LEDGER.refused("the other one is none", three, x -> x.are(0, 3), Ledger.NO_SUCH);
        LEDGER.refused("the first one is none", three, x -> x.are(3, 0), Ledger.NO_SUCH);
    }

    private static void apart() {
        LEDGER.promise("13");
        LEDGER.due("DISTANCE 0 at once", Houses.two(0, 0), x -> x.are(0, 1), 0);
        LEDGER.due("DISTANCE 1 at once", Houses.two(1, 0), x -> x.are(0, 1), 2);
        LEDGER.due("DISTANCE 4 in an HOUR", Houses.two(4, 1), x -> x.are(0, 1), 0);
        LEDGER.due("DISTANCE 5 in an HOUR", Houses.two(5, 1), x -> x.are(0, 1), 2);
        LEDGER.due("DISTANCE 196 in 49 HOURS", Houses.two(196, 49), x -> x.are(0, 1), 0);
        LEDGER.due("DISTANCE 197 in 49 HOURS", Houses.two(197, 49), x -> x.are(1, 0), 2);
        LEDGER.due("DISTANCE 198 in 49 HOURS", Houses.two(198, 49), x -> x.are(0, 1), 2);
        LEDGER.due("DISTANCE 198 in 50 HOURS", Houses.two(198, 50), x -> x.are(0, 1), 0);
        LEDGER.due("to of one less from of the other", hours(3, 5, 2, 4), x -> x.are(0, 1), 0);
        LEDGER.due("less than that", hours(3, 4, 2, 4), x -> x.are(0, 1), 2);
        LEDGER.due("to of the other less from of one", hours(2, 4, 3, 5), x -> x.are(0, 1), 0);
        LEDGER.due("3 HOURS the other way", hours(1, 1, 1, 4), x -> x.are(0, 1), 0);
        LEDGER.due("2 HOURS the other way", hours(1, 1, 1, 3), x -> x.are(0, 1), 2);
        LEDGER.due("and back", hours(1, 1, 1, 3), x -> x.are(1, 0), 2);
        LEDGER.due("APART, and told to be barred", hours(1, 1, 1, 3).then(x -> x.bar(1, 0)), x -> x.are(0, 1), 2);
        LEDGER.due("APART, and both SOLVED", hours(1, 1, 1, 3).then(x -> x.hand(0)).then(x -> {
            x.solve(0, 0, 0);
            x.solve(1, 1, 1);
        }), x -> x.are(0, 1), 2);
        apartOfMany();
        Ledger.Story one = hours(1, 1, 1, 1).then(x -> Houses.solve(x, 0, 0, 1));
        LEDGER.due("APART, but ONE", one, x -> x.are(0, 1), 1);
        LEDGER.due("ONE and so not BARRED: pairs", one, x -> 10 * x.number(11) + x.number(12), 10);
        LEDGER.due("APART again when not ONE", one.then(x -> x.solve(0, -1, -1)), x -> x.are(0, 1), 2);
    }

    /** DEEDS 0 to 4 at once at PLACES of their own, 5 at HOUR 50. */
    private static void apartOfMany() {
        Ledger.Story many = x -> {
            for (int k = 0; k < 5; k++) {
                x.place(10 * k, k, 0);
            }
            x.go(50);
            for (int k = 0; k < 5; k++) {
                x.deed(k, 0, 0);
            }
            x.deed(0, 50, 50);
        };
        for (int k = 0; k < 36; k++) {
            int a = k / 6;
            int b = k % 6;
            if (a != b) {
                LEDGER.due("DEEDS " + a + " and " + b + " of many", many, x -> x.are(a, b), a < 5 && b < 5 ? 2 : 0);
            }
        }
        LEDGER.due("pairs that are APART", many, x -> x.number(12), 10);
    }

    /** Two DEEDS with a DISTANCE of 12, which takes 3 HOURS. */
    private static Ledger.Story hours(int from, int to, int otherFrom, int otherTo) {
        return x -> {
            x.place(20, 20, 0);
            x.place(15, 27, 0);
            x.hand(OneHand.NONE);
            x.go(100);
            x.deed(0, from, to);
            x.deed(1, otherFrom, otherTo);
        };
    }

    private static Ledger.Story linked(int many) {
        return Houses.house(1, 2, 5).then(x -> {
            x.officer(0, 0);
            x.officer(0, 0);
            for (int k = 0; k < many; k++) {
                x.link(k % 2, k == 0 ? 4 : 0, 1);
            }
        });
    }

    private static void links() {
        LEDGER.promise("14");
        LEDGER.due("the first one", linked(0), x -> x.link(0, 0, 1), 1);
        LEDGER.due("the same one again", linked(2), x -> x.link(1, 0, 1), 3);
        LEDGER.due("the 40th", linked(39), x -> x.link(0, 0, 1), 40);
        LEDGER.idle("a 41st", linked(40), x -> x.link(0, 2, 3), -1);
        LEDGER.refused("a 41st of one DEED", linked(40), x -> x.link(0, 2, 2), Ledger.ARGUMENT);
        LEDGER.refused("a 41st by none", linked(40), x -> x.link(2, 2, 3), Ledger.NO_SUCH);
        Ledger.Story less = linked(40).then(x -> x.forget(4));
        LEDGER.due("a LINK that is gone makes room", less, x -> x.link(0, 2, 3), 40);
        LEDGER.idle("for one alone", less.then(x -> x.link(0, 2, 3)), x -> x.link(0, 2, 3), -1);
        LEDGER.due("all are gone", linked(40).then(x -> x.forget(1)), x -> x.number(7), 0);
        LEDGER.refused("no such OFFICER", linked(0), x -> x.link(2, 0, 1), Ledger.NO_SUCH);
        LEDGER.refused("OFFICER -1", linked(0), x -> x.link(-1, 0, 1), Ledger.NO_SUCH);
        LEDGER.refused("no such DEED", linked(0), x -> x.link(0, 5, 1), Ledger.NO_SUCH);
        LEDGER.refused("no such other DEED", linked(0), x -> x.link(0, 0, 5), Ledger.NO_SUCH);
        LEDGER.refused("both are one", linked(0), x -> x.link(0, 1, 1), Ledger.ARGUMENT);
        LEDGER.refused("both are one, by none", linked(0), x -> x.link(2, 1, 1), Ledger.NO_SUCH);
        LEDGER.refused("both are one that is none", linked(0), x -> x.link(0, 5, 5), Ledger.NO_SUCH);
    }

    private static void rights() {
        LEDGER.promise("15");
        Ledger.Story said = Houses.house(1, 2, 5).then(x -> {
            x.officer(0, 0);
            x.officer(0, 0);
            x.link(0, 0, 1);
            x.link(1, 2, 3);
            x.link(0, 3, 1);
            x.link(0, 4, 1);
        });
        LEDGER.due("none is SOLVED: right", said, x -> x.right(0, true), 0);
        LEDGER.due("none is SOLVED: wrong", said, x -> x.right(0, false), 0);
        Ledger.Story solved = said.then(x -> {
            x.solve(1, 0, 0);
            x.solve(0, 0, 1);
            x.solve(3, 1, 1);
        });
        LEDGER.due("ONE", solved, x -> x.right(0, true), 1);
        LEDGER.due("both SOLVED and not ONE", solved, x -> x.right(0, false), 1);
        LEDGER.due("one of two SOLVED: right", solved, x -> x.right(1, true), 0);
        LEDGER.due("one of two SOLVED: wrong", solved, x -> x.right(1, false), 0);
        LEDGER.due("told to be barred, not SOLVED", solved.then(x -> x.bar(2, 3)), x -> x.right(1, false), 0);
        Ledger.Story gone = solved.then(x -> x.forget(0));
        LEDGER.due("LINKS that stay are those of their OFFICER", gone.then(x -> x.solve(2, 1, 1)),
                x -> 100 * x.right(1, true) + 10 * x.right(0, true) + x.right(0, false), 101);
        LEDGER.due("and of their DEEDS", gone.then(x -> x.solve(4, 0, 0)),
                x -> 10 * x.right(0, true) + x.right(0, false), 11);
        LEDGER.refused("no such OFFICER", said, x -> x.right(2, true), Ledger.NO_SUCH);
        LEDGER.refused("OFFICER -1", said, x -> x.right(-1, false), Ledger.NO_SUCH);
    }

    private static void forgotten() {
        LEDGER.promise("16");
        Ledger.Story gone = Houses.house(1, 2, 4).then(x -> {
            x.officer(0, 0);
            Houses.solve(x, 0, 0, 3);
            x.link(0, 0, 1);
            x.link(0, 1, 2);
            x.keep(1, 0, 5000);
            x.forget(1);
            x.tray(0, 0, 1);
        });
        LEDGER.due("its LINKS are gone", gone, x -> x.number(7), 0);
        LEDGER.due("its number stays", gone, x -> x.number(5), 4);
        LEDGER.due("it doesn't STAND", gone, x -> x.number(6), 3);
        LEDGER.due("it is in no pair", gone, x -> x.number(11), 3);
        LEDGER.due("it is in no STEP", gone, x -> x.moves(0, 0), 2);
        LEDGER.due("a MAP behind it is KEPT", gone, x -> x.number(8), 1);
        LEDGER.due("and can come true", gone, x -> x.came(0, 0), true);
        LEDGER.due("nobody is LET", gone.then(Houses.rights("let;")), x -> x.ask(0, 1, 0), -1);
        LEDGER.due("it is in no part", gone, x -> x.part(0b101, false, 1), -1);
        everyCallTellsIt(gone);
    }

    private static void everyCallTellsIt(Ledger.Story gone) {
        LEDGER.refused("forget", gone, Ledger.does(x -> x.forget(1)), Ledger.NO_SUCH);
        LEDGER.refused("tell", gone, x -> x.tell(1, 0, 1), Ledger.NO_SUCH);
        LEDGER.refused("state", gone, x -> x.state(1, 0, true), Ledger.NO_SUCH);
        LEDGER.refused("doubt", gone, x -> x.doubt(1, true), Ledger.NO_SUCH);
        LEDGER.refused("solve", gone, Ledger.does(x -> x.solve(1, 0, 0)), Ledger.NO_SUCH);
        LEDGER.refused("bar", gone, x -> x.bar(1, 0), Ledger.NO_SUCH);
        LEDGER.refused("are", gone, x -> x.are(0, 1), Ledger.NO_SUCH);
        LEDGER.refused("link", gone, x -> x.link(0, 0, 1), Ledger.NO_SUCH);
        LEDGER.refused("worth", gone, x -> x.worth(1, 2, true), Ledger.NO_SUCH);
        LEDGER.refused("by", gone, x -> x.by(2, 1, 0, true), Ledger.NO_SUCH);
        LEDGER.refused("joined", gone, x -> x.joined(1, true), Ledger.NO_SUCH);
        LEDGER.refused("share", gone, x -> x.share(1, 0, 0), Ledger.NO_SUCH);
        LEDGER.refused("likely", gone, x -> x.likely(1, 0, 1), Ledger.NO_SUCH);
        LEDGER.refused("keep", gone, x -> x.keep(1, 0, 1), Ledger.NO_SUCH);
        LEDGER.refused("came", gone, x -> x.came(0, 1), Ledger.NO_SUCH);
        LEDGER.refused("stopped", gone, x -> x.stopped(1, true), Ledger.NO_SUCH);
        LEDGER.refused("others", gone, x -> x.others(1, 0, true, true), Ledger.NO_SUCH);
        LEDGER.refused("lots", gone, x -> x.lots(1, 0, 0, 1, true), Ledger.NO_SUCH);
        LEDGER.refused("may", gone, x -> x.may(0, 1), Ledger.NO_SUCH);
        LEDGER.refused("kept", gone, x -> x.kept(1), Ledger.NO_SUCH);
        LEDGER.refused("take", gone, x -> x.take(0, 1), Ledger.NO_SUCH);
        LEDGER.refused("best", gone, x -> x.best(0b11, true), Ledger.ARGUMENT);
        LEDGER.refused("part", gone, x -> x.part(0b11, true, 0), Ledger.ARGUMENT);
        LEDGER.refused("near", gone, x -> x.near(0b11, true, 0), Ledger.ARGUMENT);
        LEDGER.refused("sure", gone, x -> x.sure(0b11, true, 0, 0, 1), Ledger.ARGUMENT);
        LEDGER.refused("guess", gone, x -> x.guess(0b10), Ledger.ARGUMENT);
        LEDGER.refused("look", gone, x -> x.look(0b11, true, 0, 0), Ledger.ARGUMENT);
        LEDGER.refused("check", gone, x -> x.check(0b11, true, 0), Ledger.ARGUMENT);
    }

    private static void window() {
        LEDGER.promise("17");
        Ledger.Story four = Houses.house(1, 1, 4).then(x -> Houses.solve(x, 0, 0, 3));
        int[][] wrong = {{-1, 0}, {0, -1}, {5, 4}, {0, 100000}, {100000, 100000}, {99999, 99998},
            {Integer.MIN_VALUE, 5}, {0, Integer.MAX_VALUE}, {-1, -1}};
        for (int[] hours : wrong) {
            LEDGER.refused("from " + hours[0] + " to " + hours[1], four,
                    Ledger.does(x -> x.window(hours[0], hours[1])), Ledger.ARGUMENT);
        }
        LEDGER.due("all at first", four, x -> x.number(11), 6);
        LEDGER.alike("0 to 99,999 at first", four, four.then(x -> x.window(0, 99999)), true);
        Ledger.Story latest = x -> {
            x.place(0, 0, 0);
            x.hand(0);
            for (int k = 0; k < 10; k++) {
                x.go(k < 9 ? 10000 : 9999);
            }
            x.deed(0, 99999, 99999);
            x.deed(0, 0, 99999);
            Houses.solve(x, 0, 0, 1);
        };
        LEDGER.due("HOURS 0 and 99,999 are in it at first", latest, x -> x.number(11), 1);
        LEDGER.due("HOUR 99,999 is not in a lesser one", latest.then(x -> x.window(0, 99998)), x -> x.number(11), 0);
        LEDGER.due("its first HOUR is in it", four.then(x -> x.window(2, 99999)), x -> x.number(11), 1);
        LEDGER.due("its last HOUR is in it", four.then(x -> x.window(0, 1)), x -> x.number(11), 1);
        LEDGER.due("from 0 to 0", four.then(x -> x.window(0, 0)), x -> x.number(11), 0);
        LEDGER.due("from 3 to 3", four.then(x -> x.window(3, 3)), x -> x.number(11), 0);
        LEDGER.due("from 99,999 to 99,999", four.then(x -> x.window(99999, 99999)), x -> x.number(11), 0);
        LEDGER.due("the HOUR from which it is", Houses.house(1, 1, 0).then(x -> {
            x.deed(0, 5, 50);
            x.deed(0, 6, 60);
            Houses.solve(x, 0, 0, 1);
            x.window(0, 6);
        }), x -> x.number(11), 1);
        LEDGER.due("not the HOUR to which it is", Houses.house(1, 1, 0).then(x -> {
            x.deed(0, 5, 50);
            x.deed(0, 6, 60);
            Houses.solve(x, 0, 0, 1);
            x.window(6, 99999);
        }), x -> x.number(11), 0);
        LEDGER.due("those out of it STAND", four.then(x -> x.window(99999, 99999)), x -> x.number(6), 4);
        LEDGER.due("those out of it are parted", four.then(x -> x.window(99999, 99999)), x -> x.best(0b11, true), 0);
    }
}
