/** The bounds of promises 30 to 39: STEPS, MOVES, CHANGES, SHARES, LIKELY, MAPS, STOPPED, GUESS, HOMES. */
public final class TrailBoundsTest {
    private static final Ledger LEDGER = new Ledger();
    private static final int[] WRONG_FARS = {-1, 4, Integer.MIN_VALUE, Integer.MAX_VALUE};

    public static void main(String[] args) {
        moves();
        steps();
        changes();
        shares();
        likely();
        maps();
        stopped();
        guesses();
        homes();
        LEDGER.end();
    }

    private static Ledger.Story step(int distance, int hours) {
        return Houses.two(distance, hours).then(x -> Houses.solve(x, 0, 0, 1));
    }

    private static void moves() {
        LEDGER.promise("30");
        int[][] fars = {{0, 0}, {1, 1}, {9, 1}, {10, 2}, {49, 2}, {50, 3}, {99, 3}, {198, 3}};
        int[][] soons = {{0, 0}, {23, 0}, {24, 1}, {167, 1}, {168, 2}, {719, 2}, {720, 3}, {10000, 3}};
        for (int[] far : fars) {
            for (int[] soon : soons) {
                for (int k = 0; k < 16; k++) {
                    int f = k / 4;
                    int s = k % 4;
                    LEDGER.due("FAR " + f + " and SOON " + s + " of DISTANCE " + far[0] + " in " + soon[0] + " HOURS",
                            step(far[0], soon[0]), x -> x.moves(f, s), f == far[1] && s == soon[1] ? 1 : 0);
                }
            }
        }
        for (int k : WRONG_FARS) {
            LEDGER.refused("FAR " + k, step(0, 0), x -> x.moves(k, 0), Ledger.ARGUMENT);
            LEDGER.refused("SOON " + k, step(0, 0), x -> x.moves(0, k), Ledger.ARGUMENT);
        }
    }

    private static int allMoves(OneHand x) {
        int all = 0;
        for (int k = 0; k < 16; k++) {
            all += x.moves(k / 4, k % 4);
        }
        return all;
    }

    private static void steps() {
        LEDGER.promise("30");
        LEDGER.due("a HAND without a DEED", Houses.two(5, 5), TrailBoundsTest::allMoves, 0);
        LEDGER.due("a HAND with one DEED", Houses.two(5, 5).then(x -> x.solve(1, 1, 1)), TrailBoundsTest::allMoves, 0);
        LEDGER.due("two HANDS with one each", Houses.two(5, 5).then(x -> {
            x.solve(0, 0, 0);
            x.solve(1, 1, 1);
        }), TrailBoundsTest::allMoves, 0);
        LEDGER.due("two HANDS with both", Houses.two(5, 5).then(x -> {
            x.solve(0, 0, 1);
            x.solve(1, 1, 0);
        }), TrailBoundsTest::allMoves, 2);
        LEDGER.due("one of them DOUBTED", step(5, 5).then(x -> x.doubt(0, true)), TrailBoundsTest::allMoves, 0);
        LEDGER.due("one of them FORGOTTEN", step(5, 5).then(x -> x.forget(1)), TrailBoundsTest::allMoves, 0);
        LEDGER.due("out of WINDOW", step(5, 5).then(x -> x.window(6, 9)), TrailBoundsTest::allMoves, 1);
        Ledger.Story three = Houses.two(50, 100).then(x -> {
            x.deed(0, 100, 200);
            x.deed(1, 100, 100);
        });
        LEDGER.due("of like HOURS by number", three.then(x -> Houses.solve(x, 0, 0, 2)),
                x -> 10 * x.moves(3, 1) + x.moves(3, 0), 11);
        LEDGER.due("by the HOUR from which they are", three.then(x -> x.deed(0, 50, 500)).then(x -> {
            x.solve(1, 0, 0);
            x.solve(3, 0, 0);
            x.solve(4, 0, 0);
        }), x -> 10 * x.moves(3, 1) + x.moves(0, 0), 11);
        LEDGER.due("from their HOURS, not to them", three.then(x -> Houses.solve(x, 0, 0, 0)).then(x -> x.solve(2, 0, 0)),
                x -> x.moves(0, 1), 1);
        LEDGER.due("the most STEPS: 60 DEEDS of two HANDS each", Houses.house(0, 2, 60).then(x -> {
            for (int deed = 0; deed < 60; deed++) {
                x.solve(deed, 0, 1);
            }
        }), TrailBoundsTest::allMoves, 118);
        LEDGER.due("of the 20th HAND", Houses.house(0, 20, 60).then(x -> Houses.solve(x, 19, 58, 59)),
                TrailBoundsTest::allMoves, 1);
    }

    private static void changes() {
        LEDGER.promise("31");
        for (int a = 0; a <= 3; a++) {
            for (int b = 0; b <= 3; b++) {
                int from = a;
                int to = b;
                Ledger.Story two = step(0, 1).then(x -> Houses.tell(x, 0, from, to));
                for (int k = 0; k < 4; k++) {
                    int is = 1 + k / 2;
                    int goes = 1 + k % 2;
                    LEDGER.due("from " + a + " to " + b + ", asked for " + is + " to " + goes, two,
                            x -> x.changes(0, is, goes, false), a == is && b == goes ? 1 : 0);
                }
            }
        }
        for (int k : new int[] {-1, 0, 3, 4, Integer.MIN_VALUE, Integer.MAX_VALUE}) {
            LEDGER.refused("from " + k, step(0, 1), x -> x.changes(0, k, 1, false), Ledger.ARGUMENT);
            LEDGER.refused("to " + k, step(0, 1), x -> x.changes(0, 1, k, false), Ledger.ARGUMENT);
        }
        LEDGER.refused("no such MARK", step(0, 1), x -> x.changes(1, 1, 1, false), Ledger.NO_SUCH);
        LEDGER.refused("no such MARK, from 0", step(0, 1), x -> x.changes(-1, 0, 0, false), Ledger.NO_SUCH);
        Ledger.Story late = step(0, 1).then(x -> {
            x.officer(0, 0);
            x.tell(0, 0, 2);
            x.link(0, 0, 1);
            x.tell(1, 0, 1);
        });
        LEDGER.due("LATE ones if they are asked for", late, x -> x.changes(0, 2, 1, true), 1);
        LEDGER.due("not else", late, x -> x.changes(0, 2, 1, false), 0);
    }

    /** So many PLACES that are FAR by 1 from one another, and a DEED at the first. */
    private static Ledger.Story places(int many) {
        return x -> {
            for (int k = 0; k < many; k++) {
                x.place(k / 8, k % 8, 0);
            }
            x.hand(OneHand.NONE);
            x.go(100);
            x.deed(0, 0, 0);
        };
    }

    private static void shares() {
        LEDGER.promise("32");
        for (int many : new int[] {1, 2, 3, 6, 7, 9, 11, 17, 29, 30}) {
            int rest = 10000 % many;
            for (int k = 0; k < many; k++) {
                int place = k;
                LEDGER.due("PLACE " + k + " of " + many, places(many), x -> x.share(0, 3, place),
                        10000 / many + (k < rest ? 1 : 0));
            }
        }
        Ledger.Story three = places(3);
        LEDGER.due("SOON 0", three, x -> x.share(0, 0, 2), 3333);
        for (int k : WRONG_FARS) {
            LEDGER.refused("SOON " + k, three, x -> x.share(0, k, 0), Ledger.ARGUMENT);
        }
        LEDGER.refused("no such DEED", three, x -> x.share(1, 0, 0), Ledger.NO_SUCH);
        LEDGER.refused("DEED -1", three, x -> x.share(-1, 0, 0), Ledger.NO_SUCH);
        LEDGER.refused("no such PLACE", three, x -> x.share(0, 0, 3), Ledger.NO_SUCH);
        LEDGER.refused("PLACE -1", three, x -> x.share(0, 0, -1), Ledger.NO_SUCH);
        LEDGER.refused("no such DEED, no such SOON", three, x -> x.share(1, 4, 0), Ledger.NO_SUCH);
        LEDGER.refused("no such PLACE, no such SOON", three, x -> x.share(0, 4, 3), Ledger.NO_SUCH);
        weights();
    }

    /** PLACES in DISTANCES 0, 9, 10, 49 and 50 of the first; STEPS of DISTANCE 0, 9, 49, 50, of SOON 0. */
    private static void weights() {
        Ledger.Story far = x -> {
            x.place(0, 0, 0);
            x.place(9, 0, 0);
            x.place(10, 0, 0);
            x.place(49, 0, 0);
            x.place(50, 0, 0);
            x.hand(OneHand.NONE);
            x.go(100);
            x.deed(0, 0, 0);
        };
        Ledger.Story stays = far.then(x -> x.deed(0, 1, 1)).then(x -> Houses.solve(x, 0, 0, 1));
        shares(stays, "by one that stays", 3333, 1667, 1667, 1667, 1666);
        Ledger.Story near = far.then(x -> x.deed(1, 1, 1)).then(x -> Houses.solve(x, 0, 0, 1));
        shares(near, "by one of 9", 1667, 3333, 1667, 1667, 1666);
        Ledger.Story middle = far.then(x -> x.deed(3, 1, 1)).then(x -> Houses.solve(x, 0, 0, 1));
        shares(middle, "by one of 49", 1429, 1429, 2857, 2857, 1428);
        Ledger.Story great = far.then(x -> x.deed(4, 1, 1)).then(x -> Houses.solve(x, 0, 0, 1));
        shares(great, "by one of 50", 1667, 1667, 1667, 1666, 3333);
        LEDGER.due("not by one of another SOON", great, x -> x.share(0, 1, 4), 2000);
        LEDGER.due("behind a DOUBTED one", great.then(x -> x.doubt(0, true)), x -> x.share(0, 0, 4), 2000);
        LEDGER.due("behind the other one", great, x -> x.share(1, 0, 0), 3333);
    }

    private static void shares(Ledger.Story story, String name, int... due) {
        for (int k = 0; k < due.length; k++) {
            int place = k;
            LEDGER.due("PLACE " + k + " " + name, story, x -> x.share(0, 0, place), due[k]);
        }
    }

    private static void likely() {
        LEDGER.promise("33");
        Ledger.Story three = places(3);
        int[][] due = {{1, 1}, {3334, 1}, {3335, 3}, {6667, 3}, {6668, 7}, {10000, 7}};
        for (int[] s : due) {
            LEDGER.due("by " + s[0], three, x -> x.likely(0, 0, s[0]), s[1]);
        }
        LEDGER.due("all of thirty", places(30), x -> x.likely(0, 0, 10000), (1 << 30) - 1);
        LEDGER.due("29 of thirty", places(30), x -> x.likely(0, 0, 9667), (1 << 29) - 1);
        LEDGER.due("the greatest first", places(30).then(x -> {
            x.deed(0, 1, 1);
            x.solve(0, 0, 0);
            x.solve(1, 0, 0);
            x.place(0, 0, 0);
        }), x -> x.likely(0, 0, 646), 1 | 2);
        wrongMaps("33", (x, deed, soon, s) -> x.likely(deed, soon, s));
    }

    private interface MapCall {
        int on(OneHand x, int deed, int soon, int s);
    }

    private static void wrongMaps(String promise, MapCall call) {
        LEDGER.promise(promise);
        Ledger.Story three = places(3);
        LEDGER.due("SOON 3, s 1", three, x -> call.on(x, 0, 3, 1) >= 0, true);
        LEDGER.due("SOON 0, s 10,000", three, x -> call.on(x, 0, 0, 10000) >= 0, true);
        for (int k : WRONG_FARS) {
            LEDGER.refused("SOON " + k, three, x -> call.on(x, 0, k, 5), Ledger.ARGUMENT);
        }
        for (int k : new int[] {-1, 0, 10001, Integer.MIN_VALUE, Integer.MAX_VALUE}) {
            LEDGER.refused("s " + k, three, x -> call.on(x, 0, 0, k), Ledger.ARGUMENT);
        }
        LEDGER.refused("no such DEED", three, x -> call.on(x, 1, 0, 5), Ledger.NO_SUCH);
        LEDGER.refused("no such DEED, SOON, s", three, x -> call.on(x, -1, 4, 0), Ledger.NO_SUCH);
    }

    private static Ledger.Story kept(int many) {
        return places(3).then(x -> {
            x.deed(1, 0, 0);
            x.deed(2, 0, 0);
            for (int k = 0; k < many; k++) {
                x.keep(0, 0, k == 0 ? 3335 : 1 + k * 500);
            }
        });
    }

    private static void maps() {
        LEDGER.promise("34");
        LEDGER.due("the first one", kept(0), x -> x.keep(0, 0, 1), 0);
        LEDGER.due("the 20th", kept(19), x -> x.keep(0, 0, 1), 19);
        LEDGER.idle("a 21st", kept(20), x -> x.keep(0, 0, 1), -1);
        LEDGER.refused("a wrong 21st: s", kept(20), x -> x.keep(0, 0, 10001), Ledger.ARGUMENT);
        LEDGER.refused("a wrong 21st: SOON", kept(20), x -> x.keep(0, 4, 1), Ledger.ARGUMENT);
        LEDGER.refused("a wrong 21st: DEED", kept(20), x -> x.keep(3, 0, 1), Ledger.NO_SUCH);
        LEDGER.due("known ones make no room", kept(20).then(x -> x.came(0, 0)), x -> x.keep(0, 0, 1), -1);
        LEDGER.due("twenty of them", kept(20), x -> x.number(8), 20);
        wrongMaps("34", (x, deed, soon, s) -> x.keep(deed, soon, s));
        LEDGER.promise("35");
        LEDGER.due("its PLACE is in it", kept(1), x -> x.came(0, 0), true);
        LEDGER.due("the last PLACE of it", kept(1), x -> x.came(0, 1), true);
        LEDGER.due("its PLACE is not in it", kept(1), x -> x.came(0, 2), false);
        LEDGER.due("the 20th", kept(20), x -> x.came(19, 2), true);
        Ledger.Story known = kept(2).then(x -> x.came(0, 2));
        LEDGER.refused("it is known", known, x -> x.came(0, 2), Ledger.STATE);
        LEDGER.refused("it is known, by another DEED", known, x -> x.came(0, 0), Ledger.STATE);
        LEDGER.refused("it came true", kept(1).then(x -> x.came(0, 0)), x -> x.came(0, 2), Ledger.STATE);
        LEDGER.due("another one is not", known, x -> x.came(1, 0), true);
        LEDGER.refused("it is known, but no such DEED", known, x -> x.came(0, 3), Ledger.NO_SUCH);
        LEDGER.refused("no such MAP", known, x -> x.came(2, 0), Ledger.NO_SUCH);
        LEDGER.refused("MAP -1", known, x -> x.came(-1, 0), Ledger.NO_SUCH);
        LEDGER.refused("MAP 20", kept(20), x -> x.came(20, 0), Ledger.NO_SUCH);
        LEDGER.refused("no such MAP, no such DEED", kept(0), x -> x.came(0, 3), Ledger.NO_SUCH);
        LEDGER.due("it is KEPT as it was", kept(1).then(x -> x.place(0, 9, 0)).then(x -> x.solve(0, 0, 0))
                .then(x -> x.solve(2, 0, 0)), x -> x.came(0, 2), false);
        keptAsLikely();
        LEDGER.promise("36");
        LEDGER.due("not known: true", kept(3), x -> x.record(true), 0);
        LEDGER.due("not known: didn't", kept(3), x -> x.record(false), 0);
        LEDGER.due("one didn't", known, x -> 10 * x.record(true) + x.record(false), 1);
        LEDGER.due("one did", known.then(x -> x.came(1, 0)), x -> 10 * x.record(true) + x.record(false), 11);
        LEDGER.due("all twenty", kept(20).then(x -> {
            for (int k = 0; k < 20; k++) {
                x.came(k, 0);
            }
        }), x -> 10 * x.record(true) + x.record(false), 200);
    }

    /** PLACES in DISTANCES 0, 5, 20, 70 with a DEED at each; STEPS of three SOONs, each of another FAR. */
    private static final Ledger.Story TRAILS = x -> {
        x.place(0, 0, 0);
        x.place(5, 0, 0);
        x.place(20, 0, 0);
        x.place(70, 0, 0);
        x.hand(OneHand.NONE);
        x.go(2000);
        for (int place = 0; place < 4; place++) {
            x.deed(place, 0, 0);
        }
        int[] goes = {0, 0, 0, 1, 1, 3, 3, 1, 1, 2};
        int[] hours = {10, 11, 12, 50, 51, 52, 99, 300, 1100, 1101};
        for (int k = 0; k < goes.length; k++) {
            x.deed(goes[k], hours[k], hours[k]);
            x.solve(4 + k, 0, 0);
        }
    };

    private static void keptAsLikely() {
        LEDGER.promise("34");
        for (int deed = 0; deed < 4; deed++) {
            for (int soon = 0; soon < 4; soon++) {
                for (int s : new int[] {1, 2500, 5000, 9000, 10000}) {
                    int d = deed;
                    int o = soon;
                    int due = Ledger.made(TRAILS).likely(deed, soon, s);
                    LEDGER.due("KEPT behind DEED " + d + " by SOON " + o + " and " + s, TRAILS, x -> {
                        int places = 0;
                        for (int place = 0; place < 4; place++) {
                            places |= x.came(x.keep(d, o, s), place) ? 1 << place : 0;
                        }
                        return places;
                    }, due);
                }
            }
        }
    }

    private static void stopped() {
        LEDGER.promise("37");
        Ledger.Story none = Houses.house(1, 2, 2);
        LEDGER.due("without a STEP", none, x -> x.stopped(0, false), false);
        LEDGER.due("a HAND of one DEED has no STEP", none.then(x -> x.solve(0, 0, 0)), x -> x.stopped(0, false), false);
        Ledger.Story long50 = Houses.house(1, 2, 0).then(x -> {
            x.deed(0, 0, 0);
            x.deed(0, 50, 50);
            x.deed(0, 50, 100);
            Houses.solve(x, 0, 0, 1);
        });
        LEDGER.due("as long as the longest STEP", long50, x -> x.stopped(1, false), false);
        LEDGER.due("an HOUR longer", long50.then(x -> x.go(1)), x -> x.stopped(1, false), true);
        LEDGER.due("from its from on, not from its to", long50.then(x -> x.go(1)), x -> x.stopped(2, false), true);
        LEDGER.due("of no HAND, and as long", long50, x -> x.stopped(2, false), false);
        LEDGER.due("the longest, not the last", long50.then(x -> x.deed(0, 60, 60)).then(x -> x.solve(3, 0, 0)),
                x -> x.stopped(1, false), false);
        LEDGER.due("STEPS of 0 HOURS", Houses.house(1, 1, 0).then(x -> {
            x.deed(0, 99, 99);
            x.deed(0, 99, 99);
            x.deed(0, 100, 100);
            Houses.solve(x, 0, 0, 1);
        }), x -> x.stopped(0, false) && !x.stopped(2, false), true);
        LEDGER.due("the latest of its group", Houses.house(1, 2, 0).then(x -> {
            x.deed(0, 0, 0);
            x.deed(0, 50, 50);
            x.deed(0, 51, 51);
            x.deed(0, 0, 0);
            Houses.solve(x, 0, 0, 1);
            Houses.tell(x, 0, 2, 2, 2, 0);
        }), x -> !x.stopped(0, false) && !x.stopped(2, false) && x.stopped(3, false), true);
        Ledger.Story group = Houses.house(1, 2, 0).then(x -> {
            x.deed(0, 0, 0);
            x.deed(0, 50, 50);
            x.deed(0, 0, 0);
            x.deed(0, 51, 51);
            x.deed(0, 0, 0);
            x.deed(0, 1, 1);
            Houses.solve(x, 0, 0, 1);
            Houses.tell(x, 0, 2, 2, 2, 2, 2, 0);
        });
        for (int k = 0; k < 5; k++) {
            int deed = k;
            LEDGER.due("DEED " + k + " of a group with a later one", group, x -> x.stopped(deed, false), false);
            LEDGER.due("DEED " + k + " an HOUR ahead", group.then(x -> x.go(1)), x -> x.stopped(deed, false), false);
            LEDGER.due("DEED " + k + " an HOUR later", group.then(x -> x.go(2)), x -> x.stopped(deed, false), k < 5);
        }
        LEDGER.due("of no group with others", group, x -> x.stopped(5, false), true);
        LEDGER.due("the latest from is HOUR 0", Houses.house(1, 1, 1).then(x -> {
            x.deed(0, 100, 100);
            Houses.solve(x, 0, 0, 1);
            x.go(1);
        }), x -> x.stopped(0, false), true);
        LEDGER.due("DEED 0 is the latest", Houses.house(1, 1, 0).then(x -> {
            x.deed(0, 50, 50);
            x.deed(0, 0, 0);
            Houses.solve(x, 0, 0, 1);
        }), x -> x.stopped(0, false), false);
        Ledger.Story doubted = long50.then(x -> x.doubt(2, true));
        LEDGER.refused("it is DOUBTED", doubted, x -> x.stopped(2, false), Ledger.STATE);
        LEDGER.refused("it is DOUBTED, without a STEP", none.then(x -> x.doubt(0, true)), x -> x.stopped(0, false),
                Ledger.STATE);
        LEDGER.refused("no such DEED", long50, x -> x.stopped(3, false), Ledger.NO_SUCH);
        LEDGER.refused("DEED -1", long50, x -> x.stopped(-1, false), Ledger.NO_SUCH);
    }

    private static void guesses() {
        LEDGER.promise("38");
        Ledger.Story all = x -> {
            x.place(0, 0, 0);
            x.place(10, 0, 0);
            x.place(10, 0, 0);
            x.place(4, 3, 0);
            x.go(100);
            x.deed(0, 0, 0);
            x.deed(2, 0, 0);
            x.deed(2, 0, 0);
            x.deed(0, 0, 0);
            x.deed(0, 0, 0);
            x.doubt(4, true);
        };
        LEDGER.due("of one", all, x -> x.guess(0b1), 0);
        LEDGER.due("of like ones the lesser PLACE", all, x -> x.guess(0b10), 1);
        LEDGER.due("0 and 10, or 10 and 0, together", all, x -> x.guess(0b11), 0);
        LEDGER.due("two of them", all, x -> x.guess(0b111), 1);
        LEDGER.due("two and two", all, x -> x.guess(0b1111), 0);
        Ledger.Story near = x -> {
            x.place(0, 0, 0);
            x.place(1, 0, 0);
            x.place(0, 2, 0);
            x.deed(0, 0, 0);
            x.deed(1, 0, 0);
            x.deed(1, 0, 0);
            x.deed(2, 0, 0);
        };
        LEDGER.due("1 is less than 2", near, x -> x.guess(0b111), 1);
        LEDGER.due("0 is less than 1", near, x -> x.guess(0b10), 1);
        LEDGER.due("3 of like ones is the lesser PLACE's", near, x -> x.guess(0b1010), 0);
        LEDGER.due("3 is less than 4", near, x -> x.guess(0b1110), 1);
        LEDGER.due("at a PLACE of none of them", x -> {
            x.place(0, 4, 0);
            x.place(4, 0, 0);
            x.place(8, 8, 0);
            x.place(4, 4, 0);
            x.deed(0, 0, 0);
            x.deed(1, 0, 0);
            x.deed(2, 0, 0);
        }, x -> x.guess(0b111), 3);
        LEDGER.due("of all 60", Houses.house(0, 0, 60), x -> x.guess((1L << 60) - 1), 0);
        LEDGER.due("of the last of 60", Houses.house(0, 0, 60), x -> x.guess(1L << 59), 0);
        LEDGER.due("of one out of WINDOW", all.then(x -> x.window(5, 5)), x -> x.guess(0b1), 0);
        for (long set : new long[] {0, 0b10000, 0b10001, 1L << 5, 1L << 60, 1L << 63, 1L << 63 | 1, -1L}) {
            LEDGER.refused("of " + Long.toBinaryString(set), all, x -> x.guess(set), Ledger.ARGUMENT);
        }
        LEDGER.refused("of a FORGOTTEN one", all.then(x -> x.forget(1)), x -> x.guess(0b11), Ledger.ARGUMENT);
    }

    private static void homes() {
        LEDGER.promise("39");
        for (int k : new int[] {-1, 199, Integer.MIN_VALUE, Integer.MAX_VALUE}) {
            LEDGER.refused("a DISTANCE of " + k, step(9, 0), x -> x.homes(k, true), Ledger.ARGUMENT);
            LEDGER.refused("not of " + k, step(9, 0), x -> x.homes(k, false), Ledger.ARGUMENT);
        }
        for (int distance : new int[] {0, 1, 9, 99, 198}) {
            Ledger.Story home = Houses.two(distance, 0).then(x -> {
                x.deed(1, 0, 0);
                Houses.solve(x, 1, 1, 2);
            });
            LEDGER.due("within " + distance, home, x -> 10 * x.homes(distance, true) + x.homes(distance, false), 10);
            if (distance > 0) {
                LEDGER.due("not within one less than " + distance, home,
                        x -> 10 * x.homes(distance - 1, true) + x.homes(distance - 1, false), 1);
            }
        }
        Ledger.Story one = Houses.two(9, 0).then(x -> x.solve(1, 1, 1));
        LEDGER.due("a HAND with one DEED", one, x -> x.homes(198, true) + x.homes(198, false), 0);
        Ledger.Story two = one.then(x -> x.solve(0, 1, 1));
        LEDGER.due("a HAND with two", two, x -> x.homes(198, true) + x.homes(198, false), 1);
        LEDGER.due("one of them DOUBTED", two.then(x -> x.doubt(0, true)), x -> x.homes(198, true) + x.homes(0, false), 0);
        LEDGER.due("one of them FORGOTTEN", two.then(x -> x.forget(0)), x -> x.homes(198, true) + x.homes(0, false), 0);
        LEDGER.due("a HAND without a HOME", step(9, 0), x -> x.homes(198, true) + x.homes(198, false), 0);
        Ledger.Story line = x -> {
            x.place(20, 0, 0);
            x.place(10, 0, 0);
            x.place(0, 0, 0);
            x.hand(0);
            x.go(100);
            for (int place = 2; place >= 0; place--) {
                x.deed(place, 0, 0);
            }
            Houses.solve(x, 0, 1, 2);
        };
        LEDGER.due("GUESS of its own DEEDS alone", line, x -> 10 * x.homes(0, true) + x.homes(0, false), 10);
        LEDGER.due("GUESS of all its DEEDS", line.then(x -> x.solve(0, 0, 0)),
                x -> 10 * x.homes(9, true) + x.homes(9, false), 1);
        LEDGER.due("HAND 0", Houses.house(0, 0, 2).then(x -> x.hand(0)).then(x -> Houses.solve(x, 0, 0, 1)),
                x -> x.homes(0, true), 1);
        LEDGER.due("the 20th HAND", two.then(x -> {
            for (int k = 2; k < 20; k++) {
                x.hand(0);
            }
            x.solve(0, 19, 1);
            x.solve(1, 1, 19);
        }), x -> x.homes(198, true), 2);
    }
}
