/** The bounds of promises 40 to 42: LOOKS, OTHERS, LOTS. */
public final class ChanceBoundsTest {
    private static final Ledger LEDGER = new Ledger();

    /** DEEDS 0, 1 of one HAND have MARK 0, 2, 3 of another one have not; 4 has it, of 5 nothing is told. */
    private static final Ledger.Story KNOWN = Houses.house(2, 3, 7).then(x -> {
        Houses.solve(x, 0, 0, 1);
        Houses.solve(x, 1, 2, 3);
        Houses.tell(x, 0, 2, 2, 1, 1, 2, 0, 0);
        Houses.tell(x, 1, 3, 3, 1, 2, 3, 3, 3);
    });

    public static void main(String[] args) {
        sets();
        looks();
        worked();
        answers();
        noLook();
        others();
        lots();
        lotsOfNone();
        LEDGER.end();
    }

    private static void sets() {
        LEDGER.promise("40");
        Ledger.Story some = KNOWN.then(x -> x.deed(0, 9, 9)).then(x -> x.doubt(6, true)).then(x -> x.forget(7));
        LEDGER.due("two", some, x -> x.look(0b110000, false, 0, 0), 5);
        LEDGER.due("five", some, x -> x.look(0b111101, false, 0, 0), 5);
        long[] wrong = {0, 1, 0b100000, 0b111111, 0b1000001, 0b10000001, 1L << 8 | 1, 1L << 60 | 1, 1L << 63 | 1, -1L};
        for (long set : wrong) {
            LEDGER.refused("of " + Long.toBinaryString(set), some, x -> x.look(set, false, 0, 0), Ledger.ARGUMENT);
        }
        LEDGER.due("t 0 and 1,000,000", some, x -> x.look(3, false, 0, 2) + x.look(3, false, 1000000, 2), -2);
        for (int k : new int[] {-1, 1000001, Integer.MIN_VALUE, Integer.MAX_VALUE}) {
            LEDGER.refused("t " + k, some, x -> x.look(0b110000, false, k, 0), Ledger.ARGUMENT);
        }
        for (int k : new int[] {-1, 3, Integer.MIN_VALUE, Integer.MAX_VALUE}) {
            LEDGER.refused("what " + k, some, x -> x.look(0b110000, false, 0, k), Ledger.ARGUMENT);
        }
        Ledger.Story chain = Houses.house(1, 2, 3).then(x -> {
            x.solve(0, 0, 0);
            x.solve(1, 1, 1);
            x.solve(2, 0, 1);
        });
        LEDGER.refused("no PARTING", chain, x -> x.look(7, false, 0, 0), Ledger.STATE);
        LEDGER.refused("no PARTING, another what", chain, x -> x.look(7, false, 0, 3), Ledger.ARGUMENT);
        LEDGER.refused("no PARTING, t", chain, x -> x.look(7, false, -1, 0), Ledger.ARGUMENT);
        LEDGER.refused("no PARTING, no LOOK", chain.then(x -> Houses.tell(x, 0, 1, 2, 3)),
                x -> x.look(7, false, 0, 0), Ledger.STATE);
        LEDGER.idle("a LOOK tells nothing", KNOWN, x -> x.look(0b110000, true, 95, 2), 0);
    }

    private static void looks() {
        LEDGER.promise("40");
        LEDGER.due("the DEED", KNOWN, x -> x.look(0b110000, false, 95, 0), 5);
        LEDGER.due("the MARK", KNOWN, x -> x.look(0b110000, false, 95, 1), 0);
        LEDGER.due("96 if it is there, -112 if not: surely one or two", KNOWN, x -> x.look(0b110000, false, 95, 2), 0);
        LEDGER.due("by 96 it could be, if it is there", KNOWN, x -> x.look(0b110000, false, 96, 2), 1);
        LEDGER.due("by 111 it could be, if it is there alone", KNOWN, x -> x.look(0b110000, false, 111, 2), 1);
        Ledger.Story both = KNOWN.then(x -> x.tell(4, 0, 0));
        LEDGER.due("of like ones the lesser DEED", both, x -> x.look(0b110000, false, 0, 0), 4);
        LEDGER.due("which settles nothing", both, x -> x.look(0b110000, false, 0, 2), 1);
        Ledger.Story other = KNOWN.then(x -> x.tell(5, 1, 0)).then(x -> x.tell(4, 1, 0));
        LEDGER.due("the least NUMBER ahead of the lesser DEED", other, x -> x.look(0b110000, false, 0, 0), 5);
        LEDGER.due("and ahead of the lesser MARK of that", other, x -> x.look(0b110000, false, 0, 1), 0);
        LEDGER.due("of like ones the lesser DEED ahead of the lesser MARK", other,
                x -> x.look(0b110000, false, 1000000, 0) * 10 + x.look(0b110000, false, 1000000, 1), 41);
        LEDGER.due("then the lesser MARK", other.then(x -> x.tell(4, 0, 0)), x -> x.look(0b110000, false, 1000000, 1), 0);
        LEDGER.due("of two that are BARRED", KNOWN.then(x -> x.bar(4, 5)), x -> x.look(0b110000, false, 1000000, 2), 0);
        LEDGER.due("of two that are ONE", KNOWN.then(x -> Houses.solve(x, 2, 4, 5)),
                x -> x.look(0b110000, false, 1000000, 2), 0);
        Ledger.Story late = KNOWN.then(x -> {
            x.officer(0, 0);
            x.link(0, 5, 6);
            x.tell(5, 0, 1);
        });
        LEDGER.due("not looked for without LATE ones", late, x -> x.look(0b110000, false, 0, 0), 5);
        LEDGER.due("looked for with them", late, x -> x.look(0b110000, true, 0, 0), -1);
        LEDGER.due("the last MARK of 16 of the last DEED of 60", Houses.house(16, 0, 60).then(x -> {
            for (int mark = 0; mark < 16; mark++) {
                x.tell(0, mark, 3);
                x.tell(59, mark, mark == 15 ? 0 : 3);
            }
        }), x -> x.look(1L << 59 | 1, false, 0, 0) * 100 + x.look(1L << 59 | 1, false, 0, 1), 5915);
    }

    /** NUMBER of a LOOK, from objects that are told the answers. */
    private static int number(Ledger.Story story, long set, int t, int deed, int mark) {
        int number = 0;
        for (int answer = 1; answer <= 2; answer++) {
            int told = answer;
            OneHand x = Ledger.made(story.then(y -> y.tell(deed, mark, told)));
            int could = 0;
            for (int a = 0; a < 60; a++) {
                for (int b = a + 1; b < 60; b++) {
                    if ((set >> a & set >> b & 1) != 0) {
                        could += x.sure(set, false, t, a, b) == 0 ? 1 : 0;
                    }
                }
            }
            number = Math.max(number, could);
        }
        return number;
    }

    /** All COUNTS and THE TREE are worked anew with each answer, of SOLVED DEEDS too. */
    private static void worked() {
        LEDGER.promise("40");
        for (int seed = 1; seed <= 12; seed++) {
            long first = seed;
            Ledger.Story story = Houses.house(3, 2, 8).then(x -> {
                long goes = first;
                for (int deed = 0; deed < 8; deed++) {
                    if (deed < 6) {
                        x.solve(deed, deed % 2, deed % 2);
                    }
                    for (int mark = 0; mark < 3; mark++) {
                        goes = (goes * 1103515245L + 12345L) % (1L << 31);
                        x.tell(deed, mark, goes / 65536 % 5 == 0 ? 0 : 1 + (int) (goes / 65536 % 2));
                    }
                }
            });
            for (long set : new long[] {0b11000011, 0b11011100}) {
                for (int t : new int[] {0, 40, 120}) {
                    best(story, set, t, "seed " + seed + ", set " + set + ", t " + t);
                }
            }
        }
    }

    /** One LOOK alone, at two DEEDS: each of both answers makes them COULD be from a t of its own on. */
    private static void answers() {
        LEDGER.promise("40");
        boolean[] greater = new boolean[3];
        for (int seed = 1; seed <= 12; seed++) {
            long first = seed;
            Ledger.Story story = Houses.house(1, 2, 12).then(x -> {
                long goes = first;
                for (int deed = 0; deed < 11; deed++) {
                    if (deed < 10) {
                        x.solve(deed, deed % 2, deed % 2);
                    }
                    goes = (goes * 1103515245L + 12345L) % (1L << 31);
                    x.tell(deed, 0, 1 + (int) (goes / 65536 % 2));
                }
            });
            int[] far = new int[3];
            for (int answer = 1; answer <= 2; answer++) {
                int told = answer;
                far[answer] = Math.abs(Ledger.made(story.then(x -> x.tell(11, 0, told))).worth(10, 11, false));
            }
            greater[1] |= far[1] > far[2];
            greater[2] |= far[2] > far[1];
            for (int t : new int[] {far[1], far[2]}) {
                LEDGER.due("seed " + seed + ", t " + t, story, x -> x.look(0b11L << 10, false, t, 2), 1);
            }
            int least = Math.min(far[1], far[2]);
            if (least > 0) {
                LEDGER.due("seed " + seed + ", less than both", story, x -> x.look(0b11L << 10, false, least - 1, 2), 0);
            }
        }
        LEDGER.due("each answer is the one that settles less at times", x -> { }, x -> greater[1] && greater[2], true);
    }

    private static void best(Ledger.Story story, long set, int t, String name) {
        OneHand asked = Ledger.made(story);
        int least = -1;
        int where = -1;
        for (int deed = 0; deed < 8; deed++) {
            for (int mark = 0; mark < 3; mark++) {
                if ((set >> deed & 1) != 0 && asked.state(deed, mark, false) == 0) {
                    int number = number(story, set, t, deed, mark);
                    if (where < 0 || number < least) {
                        least = number;
                        where = 10 * deed + mark;
                    }
                }
            }
        }
        int due = where;
        LEDGER.due(name + ": where", story,
                x -> due < 0 ? x.look(set, false, t, 0) : 10 * x.look(set, false, t, 0) + x.look(set, false, t, 1), due);
        LEDGER.due(name + ": NUMBER", story, x -> x.look(set, false, t, 2), least);
    }

    private static void noLook() {
        LEDGER.promise("40");
        for (int k = 0; k <= 2; k++) {
            int what = k;
            LEDGER.due("all is looked for or can't be seen, what " + k, KNOWN, x -> x.look(0b11, false, 0, what), -1);
            LEDGER.due("there is no MARK, what " + k, Houses.house(0, 0, 2), x -> x.look(0b11, false, 0, what), -1);
        }
        for (int state = 1; state <= 3; state++) {
            int s = state;
            LEDGER.due("a MARK of STATE " + state + " is not looked at", Houses.house(1, 0, 2).then(x -> {
                x.tell(0, 0, s);
                x.tell(1, 0, s);
            }), x -> x.look(3, false, 0, 0), -1);
        }
        LEDGER.due("a MARK of STATE 0 is", Houses.house(1, 0, 2), x -> x.look(3, false, 0, 0), 0);
    }

    private static void others() {
        LEDGER.promise("41");
        LEDGER.due("WORTH just w", KNOWN, x -> x.others(0, -112, false, false), 2);
        LEDGER.due("WORTH one less", KNOWN, x -> x.others(0, -111, false, false), 0);
        LEDGER.due("all of them, whatever w is", KNOWN, x -> x.others(0, Integer.MAX_VALUE, false, true), 2);
        LEDGER.due("w far below", KNOWN, x -> x.others(0, Integer.MIN_VALUE, false, false), 2);
        LEDGER.due("none is BARRED", KNOWN, x -> x.others(4, Integer.MIN_VALUE, false, true), 0);
        LEDGER.due("of WORTH 0 above w -1", KNOWN.then(x -> x.bar(4, 5)), x -> x.others(4, -1, false, false), 1);
        LEDGER.due("of WORTH 0 with w 0", KNOWN.then(x -> x.bar(4, 5)), x -> x.others(4, 0, false, false), 1);
        LEDGER.due("of WORTH 0 with w 1", KNOWN.then(x -> x.bar(4, 5)), x -> x.others(4, 1, false, false), 0);
        LEDGER.due("a DOUBTED one is none of OTHERS", KNOWN.then(x -> x.doubt(2, true)),
                x -> x.others(0, 0, false, true), 1);
        LEDGER.due("OTHERS of a DOUBTED one", KNOWN.then(x -> x.doubt(0, true)), x -> x.others(0, 0, false, true), 2);
        LEDGER.due("a FORGOTTEN one is none of OTHERS", KNOWN.then(x -> x.bar(0, 4)).then(x -> x.forget(4)),
                x -> x.others(0, 0, false, true), 2);
        LEDGER.due("those out of WINDOW are", KNOWN.then(x -> x.window(0, 1)), x -> x.others(0, 0, false, true), 2);
        LEDGER.due("the last of 60", Houses.house(0, 0, 60).then(x -> x.bar(0, 59)), x -> x.others(0, 0, false, true), 1);
        LEDGER.due("the first of 60", Houses.house(0, 0, 60).then(x -> x.bar(0, 59)),
                x -> x.others(59, 0, false, false), 1);
        LEDGER.refused("no such DEED", KNOWN, x -> x.others(7, 0, false, true), Ledger.NO_SUCH);
        LEDGER.refused("DEED -1", KNOWN, x -> x.others(-1, 0, false, false), Ledger.NO_SUCH);
    }

    /** Two others, one of which is as DEED 0; what is dealt tells whether it is so still. */
    private static final Ledger.Story DEALT = KNOWN.then(x -> {
        x.forget(3);
        x.forget(4);
        x.forget(5);
        x.forget(6);
    });

    private static void lots() {
        LEDGER.promise("42");
        LEDGER.due("once", KNOWN, x -> x.lots(0, Integer.MIN_VALUE, 0, 1, false), 1);
        LEDGER.due("twenty times", KNOWN, x -> x.lots(0, Integer.MIN_VALUE, Integer.MAX_VALUE, 20, false), 20);
        LEDGER.due("never", KNOWN, x -> x.lots(0, Integer.MAX_VALUE, 0, 20, false), 0);
        int most = Ledger.made(KNOWN).worth(0, 1, false);
        LEDGER.due("WORTH just w", KNOWN, x -> x.lots(0, most, 5, 20, false), 20);
        LEDGER.due("WORTH one less", KNOWN, x -> x.lots(0, most + 1, 5, 20, false), 0);
        for (int k : new int[] {-1, Integer.MIN_VALUE}) {
            LEDGER.refused("seed " + k, KNOWN, x -> x.lots(0, 0, k, 1, false), Ledger.ARGUMENT);
        }
        for (int k : new int[] {-1, 0, 21, Integer.MIN_VALUE, Integer.MAX_VALUE}) {
            LEDGER.refused(k + " times", KNOWN, x -> x.lots(0, 0, 0, k, false), Ledger.ARGUMENT);
        }
        Ledger.Story doubted = KNOWN.then(x -> x.doubt(0, true));
        LEDGER.refused("it is DOUBTED", doubted, x -> x.lots(0, 0, 0, 1, false), Ledger.STATE);
        LEDGER.refused("DEED 1 is DOUBTED", KNOWN.then(x -> x.doubt(1, true)), x -> x.lots(1, 0, 0, 1, false), Ledger.STATE);
        LEDGER.due("DEED 1 is DOUBTED, but 0 is not", KNOWN.then(x -> x.doubt(1, true)),
                x -> x.lots(0, 1, 1, 1, false) + x.lots(0, 0, 1, 1, false) + x.lots(2, 0, 1, 1, false) >= 0, true);
        LEDGER.refused("it is DOUBTED, seed -1", doubted, x -> x.lots(0, 0, -1, 1, false), Ledger.ARGUMENT);
        LEDGER.refused("it is DOUBTED, 21 times", doubted, x -> x.lots(0, 0, 0, 21, false), Ledger.ARGUMENT);
        LEDGER.refused("no such DEED", KNOWN, x -> x.lots(7, 0, 0, 1, false), Ledger.NO_SUCH);
        LEDGER.refused("no such DEED, seed -1", KNOWN, x -> x.lots(-1, 0, -1, 0, false), Ledger.NO_SUCH);
        Ledger.Story alone = Houses.house(1, 2, 6).then(x -> {
            Houses.solve(x, 0, 0, 1);
            x.solve(2, 1, 1);
            Houses.tell(x, 0, 2, 2, 1, 1, 1, 2);
        });
        int like = Ledger.made(alone).worth(0, 1, false);
        Ledger.Story less = alone.then(x -> x.doubt(5, true)).then(x -> x.forget(1));
        int left = Ledger.made(less).worth(0, 2, false);
        LEDGER.due("others without the MARK alone", less, x -> x.lots(0, left + 1, 3, 20, false), 0);
        LEDGER.due("those dealt in a call ahead are not dealt again", alone.then(x -> x.lots(0, like, 3, 20, false))
                .then(x -> x.doubt(5, true)).then(x -> x.forget(1)), x -> x.lots(0, left + 1, 3, 20, false), 0);
        LEDGER.idle("what is dealt is told of none", KNOWN, x -> x.lots(0, most, 77, 20, true), 20);
    }

    /** Of a row of one nothing is dealt and x stays; of a row of two x goes on once a MARK. */
    private static void lotsOfNone() {
        LEDGER.promise("42");
        LEDGER.due("there is no other DEED", Houses.house(1, 0, 1), x -> x.lots(0, Integer.MIN_VALUE, 0, 20, false), 0);
        LEDGER.due("all others are DOUBTED", Houses.house(1, 0, 2).then(x -> x.doubt(1, true)),
                x -> x.lots(0, Integer.MIN_VALUE, 0, 20, false), 0);
        LEDGER.due("there is no MARK", Houses.house(0, 0, 2), x -> x.lots(0, 0, 0, 20, false), 20);
        LEDGER.due("and WORTH is 0", Houses.house(0, 0, 2), x -> x.lots(0, 1, 0, 20, false), 0);
        LEDGER.due("one other DEED keeps its own", DEALT.then(x -> x.forget(2)),
                x -> x.lots(0, x.worth(0, 1, false), 3, 20, false), 20);
        for (int seed : new int[] {0, 1, 65535, 65536, 1 << 30, Integer.MAX_VALUE}) {
            Ledger.Story pair = Houses.house(2, 2, 3).then(x -> {
                x.solve(0, 0, 0);
                x.solve(1, 0, 0);
                x.solve(2, 1, 1);
                Houses.tell(x, 0, 2, 2, 1);
            });
            LEDGER.due("of two others one always has the MARK, seed " + seed, pair,
                    x -> x.lots(0, x.worth(0, 1, false), seed, 20, false), 20);
        }
        walks();
        lotsOfMany();
    }

    /** A seed behind which x has this rest by 65,536. */
    private static int before(int rest) {
        int seed = 0;
        while ((seed * 1103515245L + 12345L) % 65536 != rest) {
            seed++;
        }
        return seed;
    }

    /** Of 59 others one alone has the MARK, now this one, now that one; without it WORTH is below 0. */
    private static void lotsOfMany() {
        LEDGER.promise("42");
        for (int first : new int[] {59, 40, 3}) {
            Ledger.Story many = Houses.house(2, 1, 60).then(x -> {
                Houses.solve(x, 0, 1, 2);
                x.bar(0, 1);
                for (int deed = 0; deed < 60; deed++) {
                    x.tell(deed, 0, deed == 0 || deed == first ? 2 : 1);
                }
            });
            LEDGER.due("one of the others has it", many, x -> x.worth(0, first, false), 0);
            LEDGER.due("others have not", many, x -> x.worth(0, 1, false), -64);
            LEDGER.due("some of all others, " + first + " at first", many, x -> x.lots(0, 0, 12345, 20, false), 20);
            LEDGER.due("none is worth more", many, x -> x.lots(0, 1, 12345, 20, false), 0);
        }
    }

    /** DEED 1 has both MARKS of DEED 0, DEED 2 none: both again, if both MARKS are dealt alike. */
    private static void walks() {
        Ledger.Story both = Houses.house(2, 1, 3).then(x -> {
            x.solve(1, 0, 0);
            x.solve(2, 0, 0);
            Houses.tell(x, 0, 1, 2, 1);
            Houses.tell(x, 1, 1, 2, 1);
        });
        Ledger.Story last = Houses.house(2, 1, 3).then(x -> {
            x.solve(0, 0, 0);
            x.solve(1, 0, 0);
            Houses.tell(x, 0, 2, 1, 1);
            Houses.tell(x, 1, 2, 1, 1);
        });
        for (int seed : new int[] {0, 1, 2, 3, 65535, 65536, 1 << 30, Integer.MAX_VALUE - 1, Integer.MAX_VALUE,
            before(0), before(65535), before(1), before(65534)}) {
            for (int times : new int[] {1, 2, 19, 20}) {
                long x = seed;
                int often = 0;
                for (int time = 0; time < times; time++) {
                    x = (x * 1103515245L + 12345L) % 2147483648L;
                    boolean first = x / 65536 % 2 == 0;
                    x = (x * 1103515245L + 12345L) % 2147483648L;
                    boolean second = x / 65536 % 2 == 0;
                    often += first == second ? 1 : 0;
                }
                int most = Ledger.made(both).worth(0, 1, false);
                LEDGER.due("seed " + seed + ", " + times + " times", both,
                        y -> y.lots(0, most, seed, times, false), often);
                LEDGER.due("for the last DEED, seed " + seed + ", " + times + " times", last,
                        y -> y.lots(2, most, seed, times, false), often);
            }
        }
    }
}
