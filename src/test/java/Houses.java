/** Calls that many stories have in common. */
final class Houses {
    private Houses() { }

    /** One PLACE, HOUR 100, and DEEDS that are from and to HOURS 0, 1, 2 .. */
    static Ledger.Story house(int marks, int hands, int deeds) {
        return x -> {
            x.place(0, 0, 0);
            for (int k = 0; k < marks; k++) {
                x.mark();
            }
            for (int k = 0; k < hands; k++) {
                x.hand(OneHand.NONE);
            }
            x.go(100);
            for (int k = 0; k < deeds; k++) {
                x.deed(0, k, k);
            }
        };
    }

    /** Tells STATES of a MARK of DEEDS 0, 1, 2 .. */
    static void tell(OneHand x, int mark, int... states) {
        for (int deed = 0; deed < states.length; deed++) {
            x.tell(deed, mark, states[deed]);
        }
    }

    /** DEEDS first to last are of one HAND. */
    static void solve(OneHand x, int hand, int first, int last) {
        for (int deed = first; deed <= last; deed++) {
            x.solve(deed, hand, hand);
        }
    }

    /** Brings signs to the tape, with blanks behind them up to the next twenty. */
    static int feed(OneHand x, String signs) {
        int fed = x.number(10);
        for (int from = 0; from < signs.length(); from += 20) {
            int[] v = new int[5];
            for (int k = 0; k < 20; k++) {
                int sign = from + k < signs.length() ? signs.charAt(from + k) : ' ';
                v[k / 4] = v[k / 4] << 8 | sign;
            }
            fed = x.feed(v[0], v[1], v[2], v[3], v[4]);
        }
        return fed;
    }

    /** Makes signs the TEXT of RIGHTS; the tape is empty ahead of it. */
    static int text(OneHand x, String signs) {
        feed(x, signs);
        return x.text(signs.length());
    }

    static Ledger.Story rights(String signs) {
        return x -> text(x, signs);
    }

    /** DEEDS a and b, of one HOUR each, so many HOURS and so great a DISTANCE from one another; NOW is 10,000. */
    static Ledger.Story two(int distance, int hours) {
        return x -> {
            x.place(0, 0, 0);
            x.place(Math.min(distance, 99), Math.max(0, distance - 99), 0);
            x.hand(OneHand.NONE);
            x.hand(0);
            x.mark();
            x.go(10000);
            x.deed(0, 0, 0);
            x.deed(1, hours, hours);
        };
    }
}
