/** The bounds of promises 24 to 29: PARTINGS, BEST, NEAR, what is sure, JOINED, BOUND. */
public final class PartingBoundsTest {
    private static final Ledger LEDGER = new Ledger();
    private static final long NINE = 0b111111111;

    public static void main(String[] args) {
        sets();
        none();
        rows();
        near();
        spent();
        sure();
        justGreater();
        joined();
        likeGroups();
        bound();
        LEDGER.end();
    }

    /** Of no MARK and no HAND, so that nothing is worth anything. */
    private static Ledger.Story plain(int deeds) {
        return Houses.house(1, 2, deeds);
    }

    private static void sets() {
        LEDGER.promise("24");
        Ledger.Story full = plain(60).then(x -> x.doubt(20, true)).then(x -> x.forget(30));
        LEDGER.due("two", full, x -> x.best(3, false), 0);
        LEDGER.due("nine", full, x -> x.best(NINE, false), 0);
        LEDGER.due("the last one of 60", full, x -> x.best(1L << 59 | 1, false), 0);
        long[] wrong = {0, 1, 1L << 59, NINE << 1 | 1, 1L << 20 | 1, 1L << 30 | 1, 1L << 60 | 1, 1L << 61 | 1,
            1L << 62 | 1, 1L << 63 | 1, 1L << 63, -1L, (1L << 60) - 1, 1L << 20 | NINE >> 1, 1L << 30 | NINE >> 1};
        for (long set : wrong) {
            refusedSet(full, set, Long.toBinaryString(set));
        }
        refusedSet(plain(8), 1L << 8 | 1, "the next DEED");
        refusedSet(plain(8), NINE, "nine of eight");
        LEDGER.promise("25");
        LEDGER.due("a FORGOTTEN one is in no set", full, x -> x.part(3, false, 30), -1);
        LEDGER.due("a DOUBTED one is in no set", full, x -> x.part(3, false, 20), -1);
        for (int k : new int[] {-1, 2, 59, 60, 63, 64, 65, -63, -64, Integer.MIN_VALUE, Integer.MAX_VALUE}) {
            LEDGER.due("DEED " + k + " is not in the set", full, x -> x.part(3, false, k), -1);
        }
        LEDGER.due("the last one of 60", full.then(x -> x.bar(0, 59)), x -> x.part(1L << 59 | 1, false, 59), 1);
    }

    private static void refusedSet(Ledger.Story story, long set, String name) {
        LEDGER.promise("24");
        LEDGER.refused("best of " + name, story, x -> x.best(set, false), Ledger.ARGUMENT);
        LEDGER.promise("25");
        LEDGER.refused("part of " + name, story, x -> x.part(set, true, 0), Ledger.ARGUMENT);
        LEDGER.promise("26");
        LEDGER.refused("near of " + name, story, x -> x.near(set, false, 0), Ledger.ARGUMENT);
        LEDGER.promise("27");
        LEDGER.refused("sure of " + name, story, x -> x.sure(set, true, 0, 0, 1), Ledger.ARGUMENT);
    }

    private static void none() {
        Ledger.Story chain = Houses.house(1, 2, 12).then(x -> {
            x.solve(0, 0, 0);
            x.solve(1, 1, 1);
            x.solve(2, 0, 1);
        });
        LEDGER.promise("24");
        LEDGER.refused("ONE with two that are BARRED", chain, x -> x.best(7, false), Ledger.STATE);
        LEDGER.refused("with a fourth one", chain, x -> x.best(15, true), Ledger.STATE);
        LEDGER.due("without the one", chain, x -> x.best(11, false), 0);
        LEDGER.due("without one of the two", chain, x -> x.best(13, false), 0);
        LEDGER.refused("no PARTING, and ten", chain, x -> x.best(1023, false), Ledger.ARGUMENT);
        LEDGER.promise("25");
        LEDGER.refused("no PARTING", chain, x -> x.part(7, false, 0), Ledger.STATE);
        LEDGER.refused("no PARTING, not in the set", chain, x -> x.part(7, false, 5), Ledger.STATE);
        LEDGER.promise("26");
        LEDGER.refused("no PARTING", chain, x -> x.near(7, false, 1000000), Ledger.STATE);
        LEDGER.refused("no PARTING, no t", chain, x -> x.near(7, false, 1000001), Ledger.ARGUMENT);
        LEDGER.refused("no PARTING, t -1", chain, x -> x.near(7, false, -1), Ledger.ARGUMENT);
        LEDGER.promise("27");
        LEDGER.refused("no PARTING", chain, x -> x.sure(7, false, 0, 0, 1), Ledger.STATE);
        LEDGER.refused("no PARTING, not two of the set", chain, x -> x.sure(7, false, 0, 0, 3), Ledger.ARGUMENT);
        LEDGER.refused("no PARTING, t -1", chain, x -> x.sure(7, false, -1, 0, 1), Ledger.ARGUMENT);
        LEDGER.promise("24");
        LEDGER.due("no PARTING behind another set's", chain, x -> x.best(11, false) + Ledger.answer(x, y -> y.best(7, false)),
                "0IllegalStateException");
        LEDGER.due("a PARTING behind a set without", chain, x -> Ledger.answer(x, y -> y.best(7, false)) + x.best(11, false),
                "IllegalStateException0");
        LEDGER.due("told to be barred, but ONE", chain.then(x -> x.bar(0, 2)), x -> x.best(5, false), 0);
    }

    private static void rows() {
        LEDGER.promise("25");
        Ledger.Story nine = plain(10);
        for (int k = 0; k < 9; k++) {
            int deed = k;
            LEDGER.due("of like ones all in part 0", nine, x -> x.part(NINE, false, deed), 0);
        }
        Ledger.Story apart = nine.then(x -> {
            for (int a = 0; a < 9; a++) {
                for (int b = 0; b < a; b++) {
                    x.bar(a, b);
                }
            }
        });
        for (int k = 0; k < 9; k++) {
            int deed = k;
            LEDGER.due("all BARRED, in nine parts", apart, x -> x.part(NINE, false, deed), k);
        }
        LEDGER.promise("26");
        LEDGER.due("one PARTING alone", apart, x -> x.near(NINE, false, 1000000), 1);
        LEDGER.promise("25");
        Ledger.Story two = nine.then(x -> x.bar(1, 2));
        LEDGER.due("parts are numbered as they come", two, x -> x.part(0b1110, false, 1), 0);
        LEDGER.due("the second", two, x -> x.part(0b1110, false, 2), 1);
        LEDGER.due("the first row of like ones", two, x -> x.part(0b1110, false, 3), 0);
        Ledger.Story ones = nine.then(x -> Houses.solve(x, 0, 2, 3)).then(x -> x.bar(0, 3));
        LEDGER.due("those that are ONE always in one part", ones, x -> x.part(0b1101, false, 2), 1);
        LEDGER.due("both of them", ones, x -> x.part(0b1101, false, 3), 1);
        LEDGER.promise("24");
        Ledger.Story below = Houses.house(1, 2, 7).then(x -> {
            Houses.solve(x, 0, 2, 4);
            Houses.solve(x, 1, 5, 6);
            Houses.tell(x, 0, 2, 1, 2, 2, 2, 1, 1);
            x.solve(0, 0, 0);
            x.solve(1, 0, 0);
        });
        LEDGER.due("WORTH below 0", below, x -> x.worth(0, 1, false), 144 - 240 - 200 + 232);
        LEDGER.due("of those that are ONE", below, x -> x.best(3, false), -64);
    }

    /** DEEDS 0 and 4 alike (96), 2 unlike both (-112); 0 to 3 are known ones. */
    private static final Ledger.Story KNOWN = Houses.house(2, 2, 6).then(x -> {
        Houses.solve(x, 0, 0, 1);
        Houses.solve(x, 1, 2, 3);
        Houses.tell(x, 0, 2, 2, 1, 1, 2, 1);
    });

    private static void near() {
        LEDGER.promise("26");
        long three = 0b010101;
        LEDGER.due("BEST", KNOWN, x -> x.best(three, false), 96);
        LEDGER.due("by 0 BEST alone", KNOWN, x -> x.near(three, false, 0), 1);
        LEDGER.due("by 95 not one with 96 less", KNOWN, x -> x.near(three, false, 95), 1);
        LEDGER.due("by 96 one with 96 less", KNOWN, x -> x.near(three, false, 96), 2);
        LEDGER.due("by 207 not one with 208 less", KNOWN, x -> x.near(three, false, 207), 2);
        LEDGER.due("by 208 one with 208 less", KNOWN, x -> x.near(three, false, 208), 3);
        LEDGER.due("by 1,000,000", KNOWN, x -> x.near(three, false, 1000000), 3);
        for (int t : new int[] {-1, 1000001, Integer.MIN_VALUE, Integer.MAX_VALUE}) {
            LEDGER.refused("t " + t, KNOWN, x -> x.near(three, false, t), Ledger.ARGUMENT);
        }
        LEDGER.due("two of any kind", plain(2), x -> x.near(3, false, 0), 2);
        LEDGER.due("two that are BARRED", plain(2).then(x -> x.bar(0, 1)), x -> x.near(3, false, 1000000), 1);
        LEDGER.due("two that are ONE", plain(2).then(x -> Houses.solve(x, 1, 0, 1)), x -> x.near(3, false, 1000000), 1);
        LEDGER.due("eight of any kind", plain(9), x -> x.near(NINE >> 1, false, 0), 4140);
    }

    /** Nine DEEDS that nobody solved and eight of two HANDS, with STATES of eight MARKS that are drawn by a seed. */
    private static Ledger.Story drawn(int seed) {
        return Houses.house(8, 2, 17).then(x -> {
            long goes = seed;
            for (int d = 0; d < 17; d++) {
                if (d >= 9) {
                    x.solve(d, d % 2, d % 2);
                }
                for (int m = 0; m < 8; m++) {
                    goes = (goes * 1103515245L + 12345L) % (1L << 31);
                    x.tell(d, m, 1 + (int) (goes / 65536 % 2));
                }
            }
        });
    }

    private static void spent() {
        LEDGER.promise("26");
        LEDGER.due("20,000 are not SPENT", drawn(4), x -> x.near(NINE, false, 1572), 20000);
        LEDGER.idle("20,001 are", drawn(1), x -> x.near(NINE, false, 1920), -3);
        LEDGER.due("34 less are not", drawn(1), x -> x.near(NINE, false, 1919), 19967);
        LEDGER.idle("all of nine", plain(9), x -> x.near(NINE, false, 0), -3);
        LEDGER.due("all of nine but for two that are BARRED", plain(9).then(x -> x.bar(7, 8)),
                x -> x.near(NINE, false, 0), 17007);
        LEDGER.promise("27");
        LEDGER.due("20,000 are not SPENT", drawn(4), x -> x.sure(NINE, false, 1572, 0, 8), 0);
        LEDGER.idle("20,001 are", drawn(1), x -> x.sure(NINE, false, 1920, 0, 8), -3);
        LEDGER.refused("SPENT, but not two of the set", drawn(1), x -> x.sure(NINE, false, 1920, 0, 9), Ledger.ARGUMENT);
        LEDGER.refused("SPENT, but t", plain(9), x -> x.sure(NINE, false, -1, 0, 8), Ledger.ARGUMENT);
        LEDGER.promise("24");
        LEDGER.due("BEST is not SPENT", plain(9), x -> x.best(NINE, false), 0);
        LEDGER.promise("25");
        LEDGER.due("nor is its part", plain(9), x -> x.part(NINE, false, 8), 0);
    }

    private static void sure() {
        LEDGER.promise("27");
        long three = 0b010101;
        LEDGER.due("in one part in all", KNOWN, x -> x.sure(three, false, 95, 0, 4), 1);
        LEDGER.due("not in one any more", KNOWN, x -> x.sure(three, false, 96, 4, 0), 0);
        LEDGER.due("in one part in none", KNOWN, x -> x.sure(three, false, 207, 2, 4), 2);
        LEDGER.due("in some", KNOWN, x -> x.sure(three, false, 208, 4, 2), 0);
        LEDGER.due("BARRED in none at all", KNOWN, x -> x.sure(three, false, 1000000, 0, 2), 2);
        LEDGER.due("ONE in all at all", KNOWN, x -> x.sure(3, false, 1000000, 1, 0), 1);
        Ledger.Story last = plain(60).then(x -> x.bar(57, 59));
        LEDGER.due("the last two of 60", last, x -> x.sure(7L << 57, false, 0, 59, 58), 0);
        LEDGER.due("BARRED ones of the last of 60", last, x -> x.sure(7L << 57, false, 0, 59, 57), 2);
        nine();
        LEDGER.due("the first and the last of nine", plain(9).then(x -> x.bar(0, 8)),
                x -> x.sure(NINE, false, 0, 8, 0), 2);
        LEDGER.due("the last two of nine", plain(9).then(x -> x.bar(7, 8)), x -> x.sure(NINE, false, 0, 7, 8), 2);
        LEDGER.due("others of nine", plain(9).then(x -> x.bar(7, 8)), x -> x.sure(NINE, false, 0, 6, 8), 0);
        int[][] wrong = {{0, 0}, {0, 1}, {1, 0}, {1, 3}, {0, -1}, {-1, 0}, {0, 6}, {0, 60}, {0, 63}, {64, 2}, {2, 64},
            {0, 66}, {-64, 2}, {-62, 0}, {Integer.MIN_VALUE, 0}, {0, Integer.MAX_VALUE}};
        for (int[] two : wrong) {
            LEDGER.refused(two[0] + " and " + two[1] + " are not two of the set", KNOWN,
                    x -> x.sure(three, false, 0, two[0], two[1]), Ledger.ARGUMENT);
        }
        for (int t : new int[] {-1, 1000001, Integer.MIN_VALUE, Integer.MAX_VALUE}) {
            LEDGER.refused("t " + t, KNOWN, x -> x.sure(three, false, t, 0, 2), Ledger.ARGUMENT);
        }
    }

    /** All pairs of nine: 0, 3 and 6 of one HAND, 1 and 4 of another one, 2 and 5 of a third one, 7 and 8 of none. */
    private static void nine() {
        Ledger.Story hands = Houses.house(1, 3, 9).then(x -> {
            for (int deed = 0; deed < 7; deed++) {
                x.solve(deed, deed % 3, deed % 3);
            }
        });
        for (int k = 0; k < 81; k++) {
            int a = k / 9;
            int b = k % 9;
            int due = a > 6 || b > 6 ? 0 : a % 3 == b % 3 ? 1 : 2;
            if (a != b) {
                LEDGER.due(a + " and " + b + " of nine", hands, x -> x.sure(NINE, false, 1000000, a, b), due);
            }
        }
        LEDGER.due("three, four or five parts", hands, x -> x.near(NINE, false, 0), 4 * 3 + 5);
    }

    /** WORTH of two that is 1, or -1. */
    private static void justGreater() {
        LEDGER.promise("24 to 27");
        long more = 0b11L << 22;
        LEDGER.due("1 together, 0 else", there(16, 6), x -> x.best(more, false), 1);
        LEDGER.due("in one part", there(16, 6), x -> x.part(more, false, 23), 0);
        LEDGER.due("surely", there(16, 6), x -> 10 * x.near(more, false, 0) + x.sure(more, false, 0, 22, 23), 11);
        LEDGER.due("not by 1", there(16, 6), x -> 10 * x.near(more, false, 1) + x.sure(more, false, 1, 22, 23), 20);
        long less = 0b11L << 23;
        LEDGER.due("-1 together", there(10, 13), x -> x.worth(23, 24, false), -1);
        LEDGER.due("-1 together, 0 else", there(10, 13), x -> x.best(less, false), 0);
        LEDGER.due("in two parts", there(10, 13), x -> x.part(less, false, 24), 1);
        LEDGER.due("surely two", there(10, 13), x -> 10 * x.near(less, false, 0) + x.sure(less, false, 0, 23, 24), 12);
        LEDGER.due("not so by 1", there(10, 13), x -> 10 * x.near(less, false, 1) + x.sure(less, false, 1, 23, 24), 20);
        LEDGER.promise("28");
        LEDGER.due("not joined", there(10, 13), x -> x.joined(24, false), 24);
    }

    /**
     * DEEDS 6 to 11 alone COUNT, and all others are BARRED from them. 1 and 2 are joined first; then 0 or 5 with
     * them is worth the same, and these two are BARRED from one another.
     */
    private static void likeGroups() {
        LEDGER.promise("28");
        Ledger.Story groups = Houses.house(2, 2, 12).then(x -> {
            Houses.solve(x, 0, 6, 9);
            Houses.solve(x, 1, 10, 11);
            Houses.tell(x, 0, 2, 2, 2, 0, 0, 2, 2, 2, 2, 2, 1, 1);
            Houses.tell(x, 1, 0, 2, 2, 0, 0, 0, 2, 2);
            x.window(6, 11);
            for (int a = 0; a < 6; a++) {
                for (int b = 6; b < 12; b++) {
                    x.bar(a, b);
                }
            }
            x.bar(0, 5);
        });
        LEDGER.due("1 and 2 are most alike", groups, x -> 1000 * x.worth(1, 2, false) + x.worth(0, 1, false), 216184);
        int[] due = {0, 0, 0, 3, 4, 5, 6, 6, 6, 6, 10, 10};
        for (int k = 0; k < due.length; k++) {
            int deed = k;
            LEDGER.due("of like groups that with the lesser least DEED: " + k, groups, x -> x.joined(deed, false), due[k]);
        }
    }

    /** So many DEEDS of HAND 0, so many of HAND 1, two of none; all with the MARK there. */
    private static Ledger.Story there(int first, int other) {
        return Houses.house(1, 2, first + other + 2).then(x -> {
            Houses.solve(x, 0, 0, first - 1);
            Houses.solve(x, 1, first, first + other - 1);
            for (int deed = 0; deed < first + other + 2; deed++) {
                x.tell(deed, 0, 2);
            }
        });
    }

    private static void joined() {
        LEDGER.promise("28");
        LEDGER.due("WORTH 1 is above 0", there(16, 6), x -> x.joined(23, false), 0);
        LEDGER.due("WORTH 0 is not", there(9, 8), x -> x.joined(18, false), 18);
        LEDGER.due("nor for those of one HAND", there(9, 8), x -> x.joined(1, false), 1);
        LEDGER.due("alone", plain(1), x -> x.joined(0, false), 0);
        Ledger.Story alike = Houses.house(1, 2, 12).then(x -> {
            Houses.solve(x, 0, 6, 9);
            Houses.solve(x, 1, 10, 11);
            Houses.tell(x, 0, 0, 0, 2, 2, 2, 2, 2, 2, 2, 2, 1, 1);
        });
        LEDGER.due("the least DEED of the group", alike, x -> x.joined(7, false), 2);
        LEDGER.due("of the least DEED itself", alike, x -> x.joined(2, false), 2);
        LEDGER.due("of like ones the lesser least DEED", alike.then(x -> x.bar(3, 4)).then(x -> x.bar(5, 4)),
                x -> x.joined(3, false), 2);
        LEDGER.due("the other one is BARRED from one of its DEEDS", alike.then(x -> x.bar(3, 4)),
                x -> x.joined(4, false), 4);
        LEDGER.due("then the lesser other one", alike.then(x -> x.bar(3, 4)), x -> x.joined(3, false), 2);
        LEDGER.due("the next one joins still", alike.then(x -> x.bar(3, 4)), x -> x.joined(5, false), 2);
        Ledger.Story barred = alike.then(x -> x.bar(2, 4)).then(x -> x.bar(3, 5));
        LEDGER.due("BARRED from the least of a group", barred, x -> x.joined(4, false), 4);
        LEDGER.due("BARRED from another one of it, it joins the next", barred, x -> x.joined(5, false), 4);
        LEDGER.due("one out of WINDOW joins", alike.then(x -> x.window(6, 11)), x -> x.joined(5, false), 2);
        Ledger.Story doubted = alike.then(x -> x.doubt(2, true));
        LEDGER.refused("it is DOUBTED", doubted, x -> x.joined(2, false), Ledger.STATE);
        LEDGER.due("a DOUBTED one is in no group", doubted, x -> x.joined(7, false), 3);
        LEDGER.refused("no such DEED", alike, x -> x.joined(12, false), Ledger.NO_SUCH);
        LEDGER.refused("DEED -1", alike, x -> x.joined(-1, false), Ledger.NO_SUCH);
        LEDGER.due("the last of 60", plain(60), x -> x.joined(59, false), 59);
        sums();
    }

    /** Eleven DEEDS, six of them of two HANDS, with STATES of three MARKS that are drawn by a seed. */
    private static Ledger.Story mixed(int seed) {
        return Houses.house(3, 2, 11).then(x -> {
            long goes = seed;
            for (int deed = 0; deed < 11; deed++) {
                goes = (goes * 1103515245L + 12345L) % (1L << 31);
                if (goes / 65536 % 11 < 6) {
                    x.solve(deed, deed % 2, deed % 2);
                }
                for (int mark = 0; mark < 3; mark++) {
                    goes = (goes * 1103515245L + 12345L) % (1L << 31);
                    x.tell(deed, mark, (int) (goes / 65536 % 7 + 1) / 2);
                }
            }
            x.bar(0, 10);
            x.bar(3, 4);
        });
    }

    /** Who is of whose group, by WORTH and by what two DEEDS are. */
    private static int[] groups(OneHand x) {
        int[] heads = new int[11];
        int[][] worths = new int[11][11];
        boolean[][] barred = new boolean[11][11];
        for (int a = 0; a < 11; a++) {
            heads[a] = a;
            for (int b = 0; b < a; b++) {
                worths[a][b] = worths[b][a] = x.worth(a, b, false);
                barred[a][b] = barred[b][a] = x.are(a, b) == 2;
            }
        }
        boolean joins = true;
        while (joins) {
            joins = joinOnce(heads, worths, barred);
        }
        return heads;
    }

    private static boolean joinOnce(int[] heads, int[][] worths, boolean[][] barred) {
        int most = 0;
        int[] two = null;
        for (int a = 0; a < 11; a++) {
            for (int b = a + 1; b < 11; b++) {
                int together = heads[a] == a && heads[b] == b ? 0 : Integer.MIN_VALUE;
                for (int i = 0; i < 11 && together != Integer.MIN_VALUE; i++) {
                    for (int j = 0; j < 11 && together != Integer.MIN_VALUE; j++) {
                        if (heads[i] == a && heads[j] == b) {
                            together = barred[i][j] ? Integer.MIN_VALUE : together + worths[i][j];
                        }
                    }
                }
                if (together > most) {
                    most = together;
                    two = new int[] {a, b};
                }
            }
        }
        for (int i = 0; i < 11 && two != null; i++) {
            heads[i] = heads[i] == two[1] ? two[0] : heads[i];
        }
        return two != null;
    }

    private static void sums() {
        for (int seed = 1; seed <= 40; seed++) {
            int[] due = groups(Ledger.made(mixed(seed)));
            OneHand x = Ledger.made(mixed(seed));
            for (int k = 0; k < 11; k++) {
                int deed = k;
                LEDGER.due("DEED " + k + " by seed " + seed, x, y -> y.joined(deed, false), due[k]);
            }
        }
    }

    private static void bound() {
        LEDGER.promise("29");
        LEDGER.due("WORTH 1 is above 0", there(16, 6), x -> x.bound(false), 16 * 15 / 2 + 6 * 5 / 2 + 22 * 2 + 1);
        LEDGER.due("WORTH 0 is nothing", there(9, 8), x -> x.bound(false), 0);
        LEDGER.due("what is below 0 is nothing", KNOWN, x -> x.bound(false), 6 * 96);
        LEDGER.due("those told to be barred are not in it", KNOWN.then(x -> x.bar(4, 0)), x -> x.bound(false),
                2 * 48 + 3 * 112);
        LEDGER.due("DOUBTED ones are not in it", KNOWN.then(x -> x.doubt(4, true)), x -> x.bound(false), 4 * 96);
        LEDGER.due("those out of WINDOW are", KNOWN.then(x -> x.window(0, 3)), x -> x.bound(false), 6 * 96);
        LEDGER.due("of one DEED", plain(1), x -> x.bound(true), 0);
        LEDGER.due("the last of 60", Houses.house(1, 2, 60).then(x -> {
            Houses.solve(x, 0, 0, 1);
            Houses.tell(x, 0, 2, 2);
            x.tell(59, 0, 2);
        }), x -> x.bound(false), 3 * 32);
    }
}
