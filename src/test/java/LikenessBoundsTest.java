/** The bounds of promises 18 to 23: COUNTS, WEIGHT, THE TREE, LOG, WORTH. */
public final class LikenessBoundsTest {
    private static final Ledger LEDGER = new Ledger();

    public static void main(String[] args) {
        outcomes();
        counts();
        spans();
        weights();
        tree();
        logs();
        parents();
        arguments();
        LEDGER.end();
    }

    /** DEEDS 0 to 3 of one HAND, 4 of another one, 5 of none; STATES of MARK 0 of them. */
    private static Ledger.Story told(int... states) {
        return Houses.house(2, 2, 6).then(x -> {
            Houses.solve(x, 0, 0, 3);
            x.solve(4, 1, 1);
            Houses.tell(x, 0, states);
        });
    }

    private static void outcomes() {
        LEDGER.promise("18");
        for (int a = 0; a <= 3; a++) {
            for (int b = 0; b <= 3; b++) {
                boolean looked = a > 0 && a < 3 && b > 0 && b < 3;
                int there = (a == 2 ? 1 : 0) + (b == 2 ? 1 : 0);
                Ledger.Story two = told(a, b);
                for (int outcome = 0; outcome <= 3; outcome++) {
                    int o = outcome;
                    int due = looked && (outcome == 3 || outcome == there) ? 1 : 0;
                    LEDGER.due("STATES " + a + " and " + b + ", OUTCOME " + o, two, x -> x.count(0, true, o, false), due);
                }
            }
        }
    }

    private static void counts() {
        LEDGER.promise("18");
        Ledger.Story all = told(2, 2, 1, 2, 2, 2);
        LEDGER.due("ONE, both there", all, x -> x.count(0, true, 2, false), 3);
        LEDGER.due("ONE, one there", all, x -> x.count(0, true, 1, false), 3);
        LEDGER.due("ONE, none there", all, x -> x.count(0, true, 0, false), 0);
        LEDGER.due("ONE, all together", all, x -> x.count(0, true, 3, false), 6);
        LEDGER.due("BARRED, both there", all, x -> x.count(0, false, 2, false), 3);
        LEDGER.due("BARRED, one there", all, x -> x.count(0, false, 1, false), 1);
        LEDGER.due("BARRED, all together", all, x -> x.count(0, false, 3, false), 4);
        LEDGER.due("none without a pair", told(2), x -> x.count(0, true, 3, false), 0);
        LEDGER.due("neither ONE nor BARRED", told(0, 0, 0, 0, 2, 2), x -> x.count(0, false, 3, false), 0);
        LEDGER.due("told to be barred", told(0, 0, 0, 0, 2, 2).then(x -> x.bar(4, 5)),
                x -> x.count(0, false, 2, false), 1);
        LEDGER.due("a DOUBTED one doesn't COUNT", all.then(x -> x.doubt(0, true)), x -> x.count(0, true, 3, false), 3);
        LEDGER.due("a FORGOTTEN one doesn't COUNT", all.then(x -> x.forget(0)), x -> x.count(0, true, 3, false), 3);
        LEDGER.due("from the first HOUR of WINDOW on", all.then(x -> x.window(1, 3)),
                x -> x.count(0, true, 3, false), 3);
        LEDGER.due("to its last one", all.then(x -> x.window(0, 2)), x -> x.count(0, true, 3, false), 3);
        LEDGER.due("BARRED in WINDOW", all.then(x -> x.window(3, 4)), x -> x.count(0, false, 3, false), 1);
        for (int k : new int[] {-1, 4, Integer.MIN_VALUE, Integer.MAX_VALUE}) {
            LEDGER.refused("OUTCOME " + k, all, x -> x.count(0, true, k, false), Ledger.ARGUMENT);
        }
        LEDGER.refused("no such MARK", all, x -> x.count(2, true, 0, false), Ledger.NO_SUCH);
        LEDGER.refused("no such MARK, no such OUTCOME", all, x -> x.count(-1, true, 4, false), Ledger.NO_SUCH);
        Ledger.Story sixteen = Houses.house(16, 1, 3).then(x -> Houses.solve(x, 0, 0, 2));
        for (int k = 0; k < 16; k++) {
            int mark = k;
            LEDGER.due("MARK " + k + " ahead of three STATES and behind them", sixteen, x -> {
                int ahead = x.count(mark, true, 3, false);
                Houses.tell(x, mark, 2, 2, 1);
                int first = x.count(mark, true, 3, false);
                x.tell(2, mark, 3);
                return 100 * ahead + 10 * first + x.count(mark, true, 3, false);
            }, 31);
        }
        LEDGER.due("the last MARK of 16", Houses.house(16, 1, 2).then(x -> {
            Houses.solve(x, 0, 0, 1);
            Houses.tell(x, 15, 2, 1);
        }), x -> x.count(15, true, 1, false), 1);
    }

    private static void spans() {
        LEDGER.promise("19");
        spans(told(), "0 of 0", 0, 1000);
        spans(told(2, 2), "1 of 1", 333, 1000);
        spans(told(1, 2), "0 of 1", 0, 667);
        spans(told(1, 2, 2), "1 of 3", 200, 600);
        spans(told(1, 1, 2, 2), "1 of 6", 125, 375);
        spans(told(1, 2, 2, 2), "3 of 6", 375, 625);
        spans(told(2, 2, 2), "3 of 3", 600, 1000);
        for (int k : new int[] {-1, 3, 4, Integer.MIN_VALUE, Integer.MAX_VALUE}) {
            LEDGER.refused("OUTCOME " + k, told(), x -> x.span(0, true, k, false, true), Ledger.ARGUMENT);
        }
        LEDGER.refused("no such MARK, no such OUTCOME", told(), x -> x.span(2, true, 3, false, true), Ledger.NO_SUCH);
        Ledger.Story seven = Houses.house(1, 2, 7).then(x -> {
            Houses.solve(x, 0, 0, 5);
            x.solve(6, 1, 1);
            Houses.tell(x, 0, 1, 1, 1, 1, 1, 2, 2);
        });
        LEDGER.due("1 of 6 BARRED, both there, down", seven, x -> x.span(0, false, 2, false, false), 125);
        LEDGER.due("5 of 6 BARRED, one there, up", seven, x -> x.span(0, false, 1, false, true), 875);
        LEDGER.due("10 of 15 ONE, none there, down", seven, x -> x.span(0, true, 0, false, false), 588);
        LEDGER.due("10 of 15 ONE, none there, up", seven, x -> x.span(0, true, 0, false, true), 706);
        LEDGER.due("0 of 15 ONE, both there, up", seven, x -> x.span(0, true, 2, false, true), 118);
        Ledger.Story alike = seven.then(x -> Houses.tell(x, 0, 2, 2, 2, 2, 2));
        LEDGER.due("15 of 15 ONE, both there, down", alike, x -> x.span(0, true, 2, false, false), 882);
        LEDGER.due("15 of 15 ONE, both there, up", alike, x -> x.span(0, true, 2, false, true), 1000);
        Ledger.Story six = Houses.house(1, 2, 6).then(x -> {
            Houses.solve(x, 0, 0, 4);
            x.solve(5, 1, 1);
            Houses.tell(x, 0, 1, 1, 1, 1, 2, 2);
        });
        LEDGER.due("6,000 by 7, one above 5,999, up", six, x -> x.span(0, false, 1, false, true), 858);
        LEDGER.due("4,000 by 7, down", six, x -> x.span(0, false, 1, false, false), 571);
        LEDGER.due("0 of 6 BARRED, none there, up", seven, x -> x.span(0, false, 0, false, true), 250);
    }

    private static void spans(Ledger.Story story, String name, int low, int high) {
        LEDGER.due(name + ", rounded down", story, x -> x.span(0, true, 2, false, false), low);
        LEDGER.due(name + ", rounded up", story, x -> x.span(0, true, 2, false, true), high);
    }

    /** DEEDS with two MARKS: so many with both there, the first, the other one, none of them there. */
    private static Ledger.Story weighed(int both, int first, int other, int none) {
        int many = both + first + other + none;
        return Houses.house(2, 0, many).then(x -> {
            for (int deed = 0; deed < many; deed++) {
                x.tell(deed, 0, deed < both + first ? 2 : 1);
                x.tell(deed, 1, deed < both || deed >= both + first && deed < both + first + other ? 2 : 1);
            }
        });
    }

    private static void weights() {
        LEDGER.promise("20");
        LEDGER.due("none of anything", weighed(0, 0, 0, 0), x -> x.weight(0, 1, false), 0);
        LEDGER.due("1 times 1", weighed(1, 0, 0, 1), x -> x.weight(0, 1, false), 1);
        LEDGER.due("without sign", weighed(0, 1, 1, 0), x -> x.weight(0, 1, false), 1);
        LEDGER.due("1 times 1 less 1 times 1", weighed(1, 1, 1, 1), x -> x.weight(0, 1, false), 0);
        LEDGER.due("2 times 3 less 1 times 4", weighed(2, 1, 4, 3), x -> x.weight(1, 0, false), 2);
        LEDGER.due("30 times 30", weighed(30, 0, 0, 30), x -> x.weight(0, 1, false), 900);
        LEDGER.due("all there", weighed(5, 0, 0, 0), x -> x.weight(0, 1, false), 0);
        LEDGER.due("not LOOKED for in one of them", weighed(1, 0, 0, 1).then(x -> x.tell(1, 1, 3)),
                x -> x.weight(0, 1, false), 0);
        LEDGER.due("DOUBTED", weighed(1, 0, 0, 1).then(x -> x.doubt(1, true)), x -> x.weight(0, 1, false), 0);
        LEDGER.due("out of WINDOW", weighed(1, 0, 0, 1).then(x -> x.window(1, 99)), x -> x.weight(0, 1, false), 0);
        LEDGER.due("just in WINDOW", weighed(1, 0, 0, 1).then(x -> x.window(0, 1)), x -> x.weight(0, 1, false), 1);
        LEDGER.refused("both are one", weighed(1, 0, 0, 1), x -> x.weight(1, 1, false), Ledger.ARGUMENT);
        LEDGER.refused("both are one that is none", weighed(1, 0, 0, 1), x -> x.weight(2, 2, false), Ledger.NO_SUCH);
        LEDGER.refused("the first is none", weighed(1, 0, 0, 1), x -> x.weight(-1, 0, false), Ledger.NO_SUCH);
        LEDGER.refused("the other is none", weighed(1, 0, 0, 1), x -> x.weight(0, 2, false), Ledger.NO_SUCH);
    }

    private static void tree() {
        LEDGER.promise("21");
        LEDGER.due("WEIGHT 1 is above 0", weighed(1, 0, 0, 1), x -> x.parent(1, false), 0);
        LEDGER.due("WEIGHT 0 is not", weighed(1, 1, 1, 1), x -> x.parent(1, false), -1);
        LEDGER.due("nor is the other one's", weighed(1, 1, 1, 1), x -> x.parent(0, false), -1);
        for (int mark = 0; mark < 16; mark++) {
            int m = mark;
            LEDGER.due("MARK " + mark + " of sixteen that hang on none", Houses.house(16, 0, 2), x -> x.parent(m, true), -1);
        }
        LEDGER.due("the least one is the root", weighed(1, 0, 0, 1), x -> x.parent(0, false), -1);
        LEDGER.refused("no such MARK", weighed(1, 0, 0, 1), x -> x.parent(2, false), Ledger.NO_SUCH);
        LEDGER.refused("MARK -1", weighed(1, 0, 0, 1), x -> x.parent(-1, false), Ledger.NO_SUCH);
        Ledger.Story alike = marks(3, new int[] {2, 2, 1, 1}, new int[] {2, 2, 1, 1}, new int[] {2, 2, 1, 1});
        LEDGER.due("of like ones by the lesser MARK", alike, x -> x.parent(2, false), 0);
        LEDGER.due("then by the greater one", alike, x -> x.parent(1, false), 0);
        Ledger.Story last = marks(3, new int[] {0, 0, 2, 1}, new int[] {2, 1, 2, 0}, new int[] {2, 1, 2, 1});
        LEDGER.due("WEIGHT 1 of 0 and 2, 1 of 1 and 2", last,
                x -> 100 * x.weight(0, 1, false) + 10 * x.weight(0, 2, false) + x.weight(1, 2, false), 12);
        LEDGER.due("the next MARK on the way to the root", last, x -> x.parent(1, false), 2);
        LEDGER.due("that one's way goes on", last, x -> x.parent(2, false), 0);
        Ledger.Story ring = marks(3, new int[] {2, 2, 2, 1, 1, 1}, new int[] {2, 2, 2, 1, 1, 1},
                new int[] {2, 2, 1, 1, 1, 1});
        LEDGER.due("WEIGHTS of a ring", ring,
                x -> 100 * x.weight(0, 1, false) + 10 * x.weight(0, 2, false) + x.weight(1, 2, false), 966);
        LEDGER.due("a MARK that hangs there already is not taken again", ring, x -> x.parent(2, false), 0);
        Ledger.Story great = marks(3, new int[] {2, 2, 1, 1, 0, 0}, new int[] {0, 0, 2, 1, 2, 1},
                new int[] {2, 1, 2, 1, 2, 1});
        LEDGER.due("the greatest first", great,
                x -> 100 * x.weight(0, 1, false) + 10 * x.weight(0, 2, false) + x.weight(1, 2, false), 4);
        LEDGER.due("it is the child of the lesser", great, x -> 10 * x.parent(2, false) + x.parent(1, false), 9);
        manyMarks();
        pairs();
    }

    /** Eight times two MARKS that hang together, and no more. */
    private static void pairs() {
        for (int far : new int[] {1, 8, 15}) {
            Ledger.Story story = x -> {
                Houses.house(16, 0, 16).on(x);
                for (int k = 0; k < 8; k++) {
                    for (int mark : pair(k, far)) {
                        x.tell(2 * k, mark, 2);
                        x.tell(2 * k + 1, mark, 1);
                    }
                }
            };
            for (int k = 0; k < 8; k++) {
                int[] pair = pair(k, far);
                LEDGER.due("MARK " + pair[1] + " and the lesser one", story, x -> x.parent(pair[1], false), pair[0]);
                LEDGER.due("MARK " + pair[0] + ", the lesser one", story, x -> x.parent(pair[0], false), -1);
            }
        }
    }

    /** Two MARKS: 0 and 1, 2 and 3 ..; 0 and 8, 1 and 9 ..; or 0 and 15, 1 and 14 .. */
    private static int[] pair(int k, int far) {
        return far == 1 ? new int[] {2 * k, 2 * k + 1} : new int[] {k, far == 8 ? k + 8 : 15 - k};
    }

    /** MARKS with these STATES of DEEDS 0, 1, 2 .. */
    private static Ledger.Story marks(int marks, int[]... states) {
        return Houses.house(marks, 1, states[0].length).then(x -> {
            for (int mark = 0; mark < states.length; mark++) {
                Houses.tell(x, mark, states[mark]);
            }
        });
    }

    private static void manyMarks() {
        Ledger.Story star = x -> {
            Houses.house(16, 0, 4).on(x);
            for (int mark = 0; mark < 16; mark++) {
                Houses.tell(x, mark, 2, 2, 1, 1);
            }
        };
        Ledger.Story way = x -> {
            Houses.house(16, 0, 34).on(x);
            for (int k = 0; k < 15; k++) {
                int mark = (k + 15) % 16;
                int next = (k + 16) % 16;
                x.tell(2 * k, mark, 2);
                x.tell(2 * k, next, 2);
                x.tell(2 * k + 1, mark, 1);
                x.tell(2 * k + 1, next, 1);
            }
        };
        for (int mark = 1; mark < 16; mark++) {
            int m = mark;
            LEDGER.due("MARK " + mark + " of sixteen that are alike", star, x -> x.parent(m, false), 0);
            LEDGER.due("MARK " + mark + " of a way of sixteen", way, x -> x.parent(m, false), m == 15 ? 0 : m - 1);
        }
    }

    private static int log(int v) {
        int b = 0;
        int power = 1;
        while (power * 2 <= v) {
            power *= 2;
            b++;
        }
        return 64 * b + (int) Math.floor(64.0 * (v - power) / power);
    }

    /** So many DEEDS of HAND 0 and so many of HAND 1, then two of none, all with the MARK there. */
    private static Ledger.Story there(int first, int other) {
        return Houses.house(1, 2, first + other + 2).then(x -> {
            Houses.solve(x, 0, 0, first - 1);
            Houses.solve(x, 1, first, first + other - 1);
            for (int deed = 0; deed < first + other + 2; deed++) {
                x.tell(deed, 0, 2);
            }
        });
    }

    private static void logs() {
        LEDGER.promise("22");
        LEDGER.due("LOG of 1, 3, 1 and 3", there(1, 0), x -> x.worth(1, 2, false), 0);
        LEDGER.due("LOG of 2 and 4", there(2, 0), x -> x.worth(0, 1, false), 64 - 128 + 96);
        LEDGER.due("LOG of 4 and 6", there(3, 0), x -> x.worth(3, 4, false), 128 - 160 + 96);
        LEDGER.due("LOG of 7 and 9", there(4, 0), x -> x.worth(4, 5, false), 176 - 200 + 96);
        LEDGER.due("LOG of 137 (4.5 rounded down) and 139 (5.5)", there(17, 0), x -> x.worth(0, 1, false), 452 - 453 + 96);
        for (int first = 1; first <= 58; first++) {
            int other = Math.min(58 - first, first * 7 % 13);
            int free = first + other;
            int ones = first * (first - 1) / 2 + other * (other - 1) / 2;
            int twos = first * other;
            int due = log(ones + 1) - log(ones + 3) - log(twos + 1) + log(twos + 3);
            LEDGER.due(ones + " and " + twos + " pairs", there(first, other), x -> x.worth(0, free, false), due);
        }
        LEDGER.due("WORTH just above 0", there(16, 6), x -> x.worth(0, 1, false), 1);
        LEDGER.due("WORTH just 0", there(9, 8), x -> x.worth(0, 1, false), 0);
    }

    /** MARK 1 hangs on MARK 0; DEEDS 0 and 1 are ONE, 2 and 3 are ONE. */
    private static final Ledger.Story HANGING = Houses.house(2, 2, 6).then(x -> {
        Houses.solve(x, 0, 0, 1);
        Houses.solve(x, 1, 2, 3);
        Houses.tell(x, 0, 2, 2, 1, 1, 2, 1);
        Houses.tell(x, 1, 2, 2, 1, 1, 2, 1);
    });

    private static void parents() {
        LEDGER.promise("23");
        LEDGER.due("the PARENT", HANGING, x -> x.parent(1, false), 0);
        LEDGER.due("pairs with the PARENT's OUTCOME 2 alone", HANGING, x -> x.by(0, 1, 1, false), 64 - 128 + 96);
        LEDGER.due("pairs with the PARENT's OUTCOME 0 alone", HANGING, x -> x.by(2, 3, 1, false), 64 - 128 + 96);
        LEDGER.due("pairs with the PARENT's OUTCOME 1 alone", HANGING, x -> x.by(0, 2, 1, false),
                0 - 96 - log(5) + log(7));
        LEDGER.due("all pairs when the PARENT's OUTCOME is unknown (0)", HANGING.then(x -> x.tell(4, 0, 0)),
                x -> x.by(4, 0, 1, false), log(2) - log(5) - log(1) + log(7));
        LEDGER.due("all pairs when the PARENT's OUTCOME is unknown (3)", HANGING.then(x -> x.tell(4, 0, 3)),
                x -> x.by(4, 0, 1, false), log(2) - log(5) - log(1) + log(7));
        LEDGER.due("all pairs for a root", HANGING, x -> x.by(0, 1, 0, false), log(2) - log(5) - log(1) + log(7));
        LEDGER.due("0 if its OUTCOME is unknown (0)", HANGING.then(x -> x.tell(4, 1, 0)), x -> x.by(4, 0, 1, false), 0);
        LEDGER.due("0 if its OUTCOME is unknown (3)", HANGING.then(x -> x.tell(4, 1, 3)), x -> x.by(0, 4, 1, false), 0);
        LEDGER.due("COUNTS are of all pairs", HANGING, x -> x.count(1, true, 3, false), 2);
        LEDGER.promise("22");
        LEDGER.due("all MARKS together", HANGING, x -> x.worth(0, 1, false), 32 + log(2) - log(5) + log(7));
        LEDGER.due("those that are unknown are not in it", HANGING.then(x -> x.tell(4, 1, 3)),
                x -> x.worth(0, 4, false), log(2) - log(5) + log(7));
        LEDGER.due("none is known", HANGING.then(x -> x.tell(4, 1, 3)).then(x -> x.tell(4, 0, 3)),
                x -> x.worth(0, 4, false), 0);
        LEDGER.due("a DOUBTED one has WORTH", HANGING.then(x -> x.doubt(4, true)), x -> x.worth(0, 4, false),
                32 + log(2) - log(5) + log(7));
        LEDGER.due("one out of WINDOW has WORTH", HANGING.then(x -> x.window(0, 3)), x -> x.worth(0, 4, false),
                32 + log(2) - log(5) + log(7));
    }

    private static void arguments() {
        LEDGER.promise("22");
        LEDGER.refused("both are one", HANGING, x -> x.worth(1, 1, false), Ledger.ARGUMENT);
        LEDGER.refused("both are one that is none", HANGING, x -> x.worth(6, 6, false), Ledger.NO_SUCH);
        LEDGER.refused("the other is none", HANGING, x -> x.worth(0, 6, false), Ledger.NO_SUCH);
        LEDGER.refused("the first is none", HANGING, x -> x.worth(-1, 0, false), Ledger.NO_SUCH);
        LEDGER.promise("23");
        LEDGER.refused("both are one", HANGING, x -> x.by(1, 1, 0, false), Ledger.ARGUMENT);
        LEDGER.refused("both are one, of no MARK", HANGING, x -> x.by(1, 1, 2, false), Ledger.NO_SUCH);
        LEDGER.refused("both are one that is none", HANGING, x -> x.by(6, 6, 0, false), Ledger.NO_SUCH);
        LEDGER.refused("the first is none", HANGING, x -> x.by(6, 0, 0, false), Ledger.NO_SUCH);
        LEDGER.refused("the other is none", HANGING, x -> x.by(0, -1, 0, false), Ledger.NO_SUCH);
        LEDGER.refused("no such MARK", HANGING, x -> x.by(0, 1, -1, false), Ledger.NO_SUCH);
    }
}
