/** The bounds of promises 49 to 53: TRAYS, numbers of 8 to 64 bits, what is held against them, what is counted. */
public final class TrayBoundsTest {
    private static final Ledger LEDGER = new Ledger();
    private static final Ledger.Story NEW = x -> { };
    private static final int[] NO_TRAYS = {-1, 4, Integer.MIN_VALUE, Integer.MAX_VALUE};

    public static void main(String[] args) {
        rows();
        writes();
        cuts();
        takes();
        checks();
        numbers();
        LEDGER.end();
    }

    private static Ledger.Story laid(int tray, int sort, int many) {
        return x -> x.tray(tray, sort, many);
    }

    private static void rows() {
        LEDGER.promise("49");
        for (int tray = 0; tray < 4; tray++) {
            for (int sort = 0; sort < 4; sort++) {
                int t = tray;
                LEDGER.due("40 in TRAY " + tray, laid(tray, sort, 40), x -> x.write(t, 39, 5), 5);
                LEDGER.refused("a 41st in TRAY " + tray, laid(tray, sort, 40), x -> x.write(t, 40, 5), Ledger.INDEX);
                LEDGER.refused("one in an empty TRAY " + tray, laid(tray, sort, 0), x -> x.write(t, 0, 5), Ledger.INDEX);
            }
        }
        for (int k : NO_TRAYS) {
            LEDGER.refused("TRAY " + k, laid(0, 0, 1), Ledger.does(laid(k, 0, 1)), Ledger.NO_SUCH);
            LEDGER.refused("TRAY " + k + ", of no sort", laid(0, 0, 1), Ledger.does(laid(k, 4, 41)), Ledger.NO_SUCH);
            LEDGER.refused("sort " + k, laid(0, 0, 1), Ledger.does(laid(0, k, 1)), Ledger.ARGUMENT);
        }
        for (int k : new int[] {-1, 41, Integer.MIN_VALUE, Integer.MAX_VALUE}) {
            LEDGER.refused(k + " numbers", laid(0, 0, 1), Ledger.does(laid(0, 0, k)), Ledger.ARGUMENT);
            LEDGER.refused(k + " numbers in a MISSING one", laid(0, 0, 1), Ledger.does(laid(1, 0, k)), Ledger.ARGUMENT);
        }
        Ledger.Story again = HOUSE.then(x -> {
            x.tray(0, 3, 16);
            for (int k = 0; k < 16; k++) {
                x.write(0, k, 1);
            }
            x.tray(0, 0, 16);
        });
        LEDGER.due("all are 0s again", again, x -> {
            x.take(0, 0);
            int all = 0;
            for (int k = 0; k < 16; k++) {
                all += x.state(0, k, true);
            }
            return all;
        }, 0);
        LEDGER.due("of the new sort", again, x -> x.write(0, 0, 300), 44);
        LEDGER.due("a longer one has 0s behind", HOUSE.then(x -> {
            x.tray(0, 0, 3);
            x.write(0, 2, 3);
            x.tray(0, 0, 1);
            x.tray(0, 0, 3);
            x.take(0, 0);
        }), x -> x.state(0, 2, true), 0);
        laidAgain();
        LEDGER.due("others are as they were", laid(1, 3, 5).then(laid(0, 0, 0)), x -> x.write(1, 4, 1L << 40), 1L << 40);
    }

    /** Four TRAYS of STATES of their own, one of which is laid again, of any sort: 0s in that one alone. */
    private static void laidAgain() {
        Ledger.Story four = HOUSE.then(x -> {
            for (int tray = 0; tray < 4; tray++) {
                x.tray(tray, tray, 16);
                for (int place = 0; place < 16; place++) {
                    x.write(tray, place, 1 + (tray + place) % 3);
                }
            }
        });
        for (int k = 0; k < 16; k++) {
            int again = k / 4;
            int sort = k % 4;
            for (int tray = 0; tray < 4; tray++) {
                int taken = tray;
                StringBuilder due = new StringBuilder("16:");
                for (int place = 0; place < 16; place++) {
                    due.append(tray == again ? 0 : 1 + (tray + place) % 3);
                }
                LEDGER.due("TRAY " + tray + " when " + again + " is laid in sort " + sort, four, x -> {
                    x.tray(again, sort, 16);
                    StringBuilder is = new StringBuilder(x.take(taken, 0) + ":");
                    for (int mark = 0; mark < 16; mark++) {
                        is.append(x.state(0, mark, true));
                    }
                    return is;
                }, due);
            }
        }
    }

    /** Sixteen MARKS and two DEEDS. */
    private static final Ledger.Story HOUSE = Houses.house(16, 1, 2);

    private static void writes() {
        LEDGER.promise("50");
        Ledger.Story two = laid(2, 1, 2);
        LEDGER.due("the first place", two, x -> x.write(2, 0, -7), -7);
        LEDGER.due("the last place", two, x -> x.write(2, 1, 7), 7);
        for (int k : new int[] {-1, 2, 39, 40, Integer.MIN_VALUE, Integer.MAX_VALUE}) {
            LEDGER.refused("place " + k, two, x -> x.write(2, k, 1), Ledger.INDEX);
            LEDGER.refused("place " + k + " of a MISSING one", two, x -> x.write(1, k, 1), Ledger.STATE);
        }
        for (int k : NO_TRAYS) {
            LEDGER.refused("TRAY " + k, two, x -> x.write(k, 5, 1), Ledger.NO_SUCH);
        }
        for (int k : new int[] {0, 1, 3}) {
            LEDGER.refused("TRAY " + k + " is MISSING", two, x -> x.write(k, 0, 1), Ledger.STATE);
        }
    }

    private static void cut(int sort, long v, long due) {
        LEDGER.due(v + " in sort " + sort, laid(0, sort, 1), x -> x.write(0, 0, v), due);
    }

    private static void cuts() {
        LEDGER.promise("50");
        for (int sort = 0; sort < 3; sort++) {
            long half = 1L << (8 << sort) - 1;
            cut(sort, half - 1, half - 1);
            cut(sort, half, -half);
            cut(sort, -half, -half);
            cut(sort, -half - 1, half - 1);
            cut(sort, 2 * half - 1, -1);
            cut(sort, 2 * half, 0);
            cut(sort, 2 * half + 5, 5);
            cut(sort, -1, -1);
            cut(sort, Long.MAX_VALUE, -1);
            cut(sort, Long.MIN_VALUE, 0);
        }
        cut(3, Long.MAX_VALUE, Long.MAX_VALUE);
        cut(3, Long.MIN_VALUE, Long.MIN_VALUE);
        cut(3, 1L << 32, 1L << 32);
        LEDGER.promise("51");
        LEDGER.due("it is kept as it was cut", HOUSE.then(laid(0, 0, 1)).then(x -> x.write(0, 0, 258)),
                x -> x.take(0, 0) * 10 + x.state(0, 0, true), 12);
    }

    private static Ledger.Story states(int marks, long... all) {
        return Houses.house(marks, 1, 3).then(x -> {
            x.officer(0, 0);
            x.tray(1, 3, all.length);
            for (int k = 0; k < all.length; k++) {
                x.write(1, k, all[k]);
            }
            x.forget(1);
        });
    }

    private static void takes() {
        LEDGER.promise("51");
        LEDGER.due("none", states(0), x -> x.take(1, 0), 0);
        LEDGER.due("as many as MARKS", states(3, 3, 2, 1), x -> x.take(1, 0), 3);
        LEDGER.refused("one more than MARKS", states(2, 3, 2, 1), x -> x.take(1, 0), Ledger.ARGUMENT);
        LEDGER.due("one less", states(4, 3, 2, 1), x -> x.take(1, 0), 3);
        LEDGER.due("sixteen", states(16, 1, 2, 3, 0, 1, 2, 3, 0, 1, 2, 3, 0, 1, 2, 3, 1),
                x -> x.take(1, 2) + x.state(2, 15, false), 17);
        LEDGER.due("each is told", states(4, 3, 2, 1).then(x -> x.take(1, 0)),
                x -> x.state(0, 0, false) * 1000 + x.state(0, 1, false) * 100 + x.state(0, 2, false) * 10
                        + x.state(0, 3, false), 3210);
        LEDGER.due("0 is told, too", states(1, 0).then(x -> x.tell(0, 0, 2)).then(x -> x.take(1, 0)),
                x -> x.state(0, 0, true), 0);
        for (long wrong : new long[] {-1, 4, 1L << 32, (1L << 32) + 1, Long.MIN_VALUE, Long.MAX_VALUE}) {
            LEDGER.refused(wrong + " at first", states(3, wrong, 1, 2), x -> x.take(1, 0), Ledger.ARGUMENT);
            LEDGER.refused(wrong + " at last", states(3, 1, 2, wrong), x -> x.take(1, 0), Ledger.ARGUMENT);
        }
        LEDGER.due("LATE, if a LINK has it", states(1, 2).then(x -> x.link(0, 0, 2)).then(x -> x.take(1, 0)),
                x -> 10 * x.state(0, 0, true) + x.state(0, 0, false), 20);
        LEDGER.refused("MISSING", states(3, 1), x -> x.take(0, 0), Ledger.STATE);
        LEDGER.refused("MISSING, no such DEED", states(3, 1), x -> x.take(0, 3), Ledger.NO_SUCH);
        LEDGER.refused("no STATES, no such DEED", states(0, 9), x -> x.take(1, 3), Ledger.NO_SUCH);
        LEDGER.refused("a FORGOTTEN one", states(3, 1), x -> x.take(1, 1), Ledger.NO_SUCH);
        LEDGER.refused("DEED -1", states(3, 1), x -> x.take(1, -1), Ledger.NO_SUCH);
        for (int k : NO_TRAYS) {
            LEDGER.refused("TRAY " + k, states(3, 1), x -> x.take(k, 0), Ledger.NO_SUCH);
        }
        LEDGER.due("a DOUBTED one", states(1, 2).then(x -> x.doubt(0, true)), x -> x.take(1, 0), 1);
    }

    /** WORTHS of DEEDS 0, 2 and 3: -112, -112, 96; of 0, 1, 2, 3: 96, -112, -112, -112, -112, 96. */
    private static Ledger.Story worths(int sort, long... all) {
        return Houses.house(1, 2, 60).then(x -> {
            Houses.solve(x, 0, 0, 1);
            Houses.solve(x, 1, 2, 3);
            Houses.tell(x, 0, 2, 2, 1, 1);
            x.doubt(50, true);
            x.forget(51);
            x.tray(3, sort, all.length);
            for (int k = 0; k < all.length; k++) {
                x.write(3, k, all[k]);
            }
        });
    }

    private static void checks() {
        LEDGER.promise("52");
        long three = 0b1101;
        LEDGER.due("all are right", worths(0, -112, -112, 96), x -> x.check(three, false, 3), -1);
        LEDGER.due("what is behind them isn't asked", worths(3, -112, -112, 96, 5), x -> x.check(three, false, 3), -1);
        LEDGER.due("the first differs", worths(1, -111, -112, 96), x -> x.check(three, false, 3), 0);
        LEDGER.due("the second differs", worths(1, -112, -113, 0), x -> x.check(three, false, 3), 1);
        LEDGER.due("the last differs", worths(1, -112, -112, 95), x -> x.check(three, false, 3), 2);
        LEDGER.due("by 2 to the 32", worths(3, -112, -112, 96 + (1L << 32)), x -> x.check(three, false, 3), 2);
        LEDGER.due("none is there", worths(2), x -> x.check(three, false, 3), -3);
        LEDGER.due("one is there and right", worths(2, -112), x -> x.check(three, false, 3), -4);
        LEDGER.due("two are there and right", worths(2, -112, -112), x -> x.check(three, false, 3), -5);
        LEDGER.due("two are there, one is wrong", worths(2, -112, 96), x -> x.check(three, false, 3), 1);
        LEDGER.due("by the lesser DEED, then the other one", worths(2, 96, -112, -112, -112, -112, 96),
                x -> x.check(0b1111, false, 3), -1);
        LEDGER.due("of two", worths(2, 96), x -> x.check(0b1100, false, 3), -1);
        LEDGER.idle("it is MISSING", worths(2, 96), x -> x.check(three, false, 2), -2);
        Ledger.Story most = worths(3, new long[36]);
        long nine = 0b111111111L << 10;
        LEDGER.due("of nine", most, x -> x.check(nine, false, 3), -1);
        LEDGER.due("of nine, one less", worths(3, new long[35]), x -> x.check(nine, false, 3), -38);
        LEDGER.due("of nine in 40", worths(3, new long[40]), x -> x.check(nine, false, 3), -1);
        LEDGER.due("with the last of 60", worths(0, 0), x -> x.check(1L << 59 | 1, false, 3), -1);
        long[] wrong = {0, 1, nine | 1, 1L << 50 | 1, 1L << 51 | 1, 1L << 60 | 1, 1L << 63 | 1, -1L};
        for (long set : wrong) {
            LEDGER.refused("of " + Long.toBinaryString(set), most, x -> x.check(set, false, 3), Ledger.ARGUMENT);
            LEDGER.refused("of that, MISSING", most, x -> x.check(set, false, 0), Ledger.ARGUMENT);
        }
        for (int k : NO_TRAYS) {
            LEDGER.refused("TRAY " + k, most, x -> x.check(3, false, k), Ledger.NO_SUCH);
            LEDGER.refused("TRAY " + k + " of no set", most, x -> x.check(0, false, k), Ledger.NO_SUCH);
        }
        LEDGER.due("with LATE ones", worths(2, 96).then(x -> {
            x.officer(0, 0);
            x.link(0, 5, 6);
            x.tell(5, 0, 2);
        }), x -> 10 * x.check(0b100001, true, 3) + x.check(0b100001, false, 3), -10);
    }

    private static void numbers() {
        LEDGER.promise("53");
        Ledger.Story all = Houses.house(4, 3, 9).then(x -> {
            x.place(9, 9, 0);
            for (int k = 0; k < 5; k++) {
                x.officer(0, k);
            }
            Houses.solve(x, 0, 0, 3);
            Houses.solve(x, 1, 4, 5);
            x.solve(6, 2, 2);
            x.link(0, 0, 1);
            x.link(0, 0, 7);
            x.doubt(1, true);
            x.forget(7);
            x.keep(0, 0, 1);
            x.keep(0, 0, 1);
            x.keep(0, 0, 1);
            Houses.text(x, "let;bar;let;bar;keep 9000;let;");
            Houses.feed(x, "some more bytes on the tape");
            x.window(0, 5);
        });
        int[] due = {100, 2, 4, 3, 5, 9, 7, 1, 3, 6, 40, 4, 6};
        for (int k = 0; k < due.length; k++) {
            int what = k;
            LEDGER.due("number(" + k + ")", all, x -> x.number(what), due[k]);
        }
        for (int k : new int[] {-1, 13, Integer.MIN_VALUE, Integer.MAX_VALUE}) {
            LEDGER.idle("number(" + k + ")", all, x -> x.number(k), -1);
        }
        LEDGER.due("pairs told to be barred", all.then(x -> x.bar(8, 0)).then(x -> x.window(0, 99)),
                x -> x.number(12), 6 + 5 + 1);
        LEDGER.due("of NEW", NEW, x -> x.number(12), 0);
    }
}
