import java.util.NoSuchElementException;

/** Each promise of the document by itself: what is ordinary, the edges it names, and what it refuses. */
public final class PromisesTest {
    private static final Class<?> NO_SUCH = NoSuchElementException.class;
    private static final Class<?> ARGUMENT = IllegalArgumentException.class;
    private static final Class<?> STATE = IllegalStateException.class;
    private static final Class<?> INDEX = IndexOutOfBoundsException.class;

    private static String promise = "";
    private static int wrong = 0;
    private static int checks = 0;

    interface Call {
        void run();
    }

    private static void due(String what, long is, long want) {
        checks++;
        if (is != want) {
            wrong++;
            System.out.println(promise + ": " + what + " is " + is + ", due is " + want);
        }
    }

    private static void due(String what, boolean is, boolean want) {
        due(what, is ? 1 : 0, want ? 1 : 0);
    }

    private static void refused(String what, Class<?> by, Call call) {
        checks++;
        Class<?> is = null;
        try {
            call.run();
        } catch (RuntimeException e) {
            is = e.getClass();
        }
        if (is != by) {
            wrong++;
            System.out.println(promise + ": " + what + " throws " + is + ", due is " + by);
        }
    }

    public static void main(String[] args) {
        land();
        deeds();
        likeness();
        partings();
        hands();
        chance();
        rights();
        trays();
        System.out.println(checks + " checks, " + wrong + " wrong");
        if (wrong > 0) {
            System.exit(1);
        }
    }

    // ---- houses to ask

    /** One PLACE, no MARKS, HOUR 100, and so many DEEDS from and to HOURS 0, 1, 2 .. */
    private static OneHand house(int marks, int hands, int deeds) {
        OneHand x = new OneHand();
        x.place(0, 0, 0);
        for (int k = 0; k < marks; k++) {
            x.mark();
        }
        for (int k = 0; k < hands; k++) {
            x.hand(OneHand.NONE);
        }
        x.go(100);
        for (int k = 0; k < deeds; k++) {
            x.deed(0, k, k);
        }
        return x;
    }

    private static void tellAll(OneHand x, int mark, int... states) {
        for (int deed = 0; deed < states.length; deed++) {
            x.tell(deed, mark, states[deed]);
        }
    }

    /** DEEDS 0, 1 of HAND 0 with MARK 0 there, 2, 3 of HAND 1 with it not there; six in all, 4 there, 5 not. */
    private static OneHand two() {
        OneHand x = house(2, 2, 6);
        x.solve(0, 0, 0);
        x.solve(1, 0, 0);
        x.solve(2, 1, 1);
        x.solve(3, 1, 1);
        tellAll(x, 0, 2, 2, 1, 1, 2, 1);
        return x;
    }

    private static int feed(OneHand x, String text) {
        StringBuilder padded = new StringBuilder(text);
        while (padded.length() % 20 != 0) {
            padded.append('~');
        }
        int fed = 0;
        for (int k = 0; k < padded.length(); k += 20) {
            int[] v = new int[5];
            for (int i = 0; i < 20; i++) {
                v[i / 4] = v[i / 4] << 8 | padded.charAt(k + i);
            }
            fed = x.feed(v[0], v[1], v[2], v[3], v[4]);
        }
        return fed;
    }

    private static int text(OneHand x, String text) {
        feed(x, text);
        return x.text(text.length());
    }

    // ---- promises 1 to 6

    private static void land() {
        promise = "1";
        OneHand x = new OneHand();
        for (int what = 0; what <= 12; what++) {
            due("number(" + what + ")", x.number(what), 0);
        }
        due("fault(0)", x.fault(0), 0);
        due("fault(1)", x.fault(1), -1);
        refused("write to a missing tray", STATE, () -> x.write(0, 0, 1));
        refused("text(1) of an empty tape", ARGUMENT, () -> x.text(1));

        promise = "2";
        refused("go(0)", ARGUMENT, () -> x.go(0));
        refused("go(-1)", ARGUMENT, () -> x.go(-1));
        refused("go(10001)", ARGUMENT, () -> x.go(10001));
        due("go(1)", x.go(1), 0);
        for (int k = 0; k < 9; k++) {
            due("go(10000)", x.go(10000), 0);
        }
        refused("go past the last hour", STATE, () -> x.go(9999));
        refused("go(10001) there", ARGUMENT, () -> x.go(10001));
        due("go(9998)", x.go(9998), 0);
        due("the last hour", x.number(0), 99999);
        refused("go(1) there", STATE, () -> x.go(1));
        goForgets();

        promise = "3";
        due("place(0, 0, 0)", x.place(0, 0, 0), 0);
        due("place(99, 99, 5)", x.place(99, 99, 5), 1);
        refused("place(-1, 0, 0)", ARGUMENT, () -> x.place(-1, 0, 0));
        refused("place(100, 0, 0)", ARGUMENT, () -> x.place(100, 0, 0));
        refused("place(0, -1, 0)", ARGUMENT, () -> x.place(0, -1, 0));
        refused("place(0, 100, 0)", ARGUMENT, () -> x.place(0, 100, 0));
        refused("place(0, 0, -1)", ARGUMENT, () -> x.place(0, 0, -1));
        refused("place(0, 0, 6)", ARGUMENT, () -> x.place(0, 0, 6));
        for (int k = 2; k < 30; k++) {
            due("place " + k, x.place(k, 0, 1), k);
        }
        due("a 31st place", x.place(0, 0, 0), -1);
        refused("a wrong 31st place", ARGUMENT, () -> x.place(0, 0, 6));
        due("number(1)", x.number(1), 30);

        promise = "4";
        for (int k = 0; k < 16; k++) {
            due("mark " + k, x.mark(), k);
        }
        due("a 17th mark", x.mark(), -1);
        due("number(2)", x.number(2), 16);

        promise = "5";
        refused("hand(30)", NO_SUCH, () -> x.hand(30));
        refused("hand(-2)", NO_SUCH, () -> x.hand(-2));
        for (int k = 0; k < 20; k++) {
            due("hand " + k, x.hand(k % 2 == 0 ? -1 : 29), k);
        }
        due("a 21st hand", x.hand(0), -1);
        refused("a wrong 21st hand", NO_SUCH, () -> x.hand(30));
        due("number(3)", x.number(3), 20);

        promise = "6";
        refused("officer(-1, 0)", ARGUMENT, () -> x.officer(-1, 0));
        refused("officer(6, 0)", ARGUMENT, () -> x.officer(6, 0));
        refused("officer(0, -1)", ARGUMENT, () -> x.officer(0, -1));
        refused("officer(0, 10)", ARGUMENT, () -> x.officer(0, 10));
        for (int k = 0; k < 10; k++) {
            due("officer " + k, x.officer(k % 6, 9 - k), k);
        }
        due("an 11th officer", x.officer(0, 0), -1);
        refused("a wrong 11th officer", ARGUMENT, () -> x.officer(0, 10));
        due("number(4)", x.number(4), 10);
    }

    private static void goForgets() {
        OneHand x = house(1, 0, 3);
        x.officer(0, 0);
        x.link(0, 0, 1);
        due("text", text(x, "keep 5 if links=0;keep 5 if there>0;"), 2);
        x.tell(1, 0, 2);
        due("nobody is old enough", x.go(4), 0);
        due("1 and 2 go, 0 has its link while it is looked at", x.go(1), 2);
        due("number(6)", x.number(6), 1);
        due("0 goes next", x.go(1), 1);
        due("number(5)", x.number(5), 3);
        due("number(6)", x.number(6), 0);
        OneHand y = house(1, 0, 2);
        y.officer(0, 0);
        y.link(0, 0, 1);
        text(y, "keep 5 if links=0;keep 5 if there>0;");
        y.tell(0, 0, 2);
        due("1 goes after 0 at once", y.go(9999), 2);
        OneHand z = house(0, 0, 1);
        text(z, "keep 50;");
        refused("go that throws", ARGUMENT, () -> z.go(10001));
        due("nobody is gone by it", z.number(6), 1);
        due("go counts by the new hour", z.go(50), 1);
    }

    // ---- promises 7 to 17

    private static void deeds() {
        promise = "7";
        OneHand x = house(2, 3, 0);
        x.place(0, 40, 0);
        refused("deed at no place", NO_SUCH, () -> x.deed(2, 0, 0));
        refused("deed at -1 and wrong hours", NO_SUCH, () -> x.deed(-1, 5, 4));
        refused("deed from -1", ARGUMENT, () -> x.deed(0, -1, 0));
        refused("deed to below from", ARGUMENT, () -> x.deed(0, 5, 4));
        refused("deed to above now", ARGUMENT, () -> x.deed(0, 5, 101));
        due("deed(0, 100, 100)", x.deed(0, 100, 100), 0);
        due("deed(1, 0, 100)", x.deed(1, 0, 100), 1);
        x.forget(0);
        for (int k = 2; k < 60; k++) {
            due("deed " + k, x.deed(0, k, k), k);
        }
        due("a 61st deed", x.deed(0, 0, 0), -1);
        refused("a wrong 61st deed", ARGUMENT, () -> x.deed(0, 1, 0));
        due("number(5)", x.number(5), 60);
        due("number(6)", x.number(6), 59);

        tells();
        solves();
        pairs();
        links();

        promise = "16";
        OneHand f = house(1, 1, 2);
        f.officer(0, 0);
        f.forget(0);
        refused("forget it again", NO_SUCH, () -> f.forget(0));
        refused("forget none", NO_SUCH, () -> f.forget(2));
        refused("tell of it", NO_SUCH, () -> f.tell(0, 0, 1));
        refused("doubt it", NO_SUCH, () -> f.doubt(0, true));
        refused("solve it", NO_SUCH, () -> f.solve(0, 0, 0));
        refused("bar it", NO_SUCH, () -> f.bar(0, 1));
        refused("link it", NO_SUCH, () -> f.link(0, 1, 0));
        refused("others of it", NO_SUCH, () -> f.others(0, 0, false, true));
        refused("part it", ARGUMENT, () -> f.best(3, false));
        due("the next number", f.deed(0, 0, 0), 2);

        promise = "17";
        OneHand w = two();
        refused("window(-1, 5)", ARGUMENT, () -> w.window(-1, 5));
        refused("window(0, 100000)", ARGUMENT, () -> w.window(0, 100000));
        refused("window(6, 5)", ARGUMENT, () -> w.window(6, 5));
        due("ones before", w.number(11), 2);
        w.window(1, 2);
        due("ones within", w.number(11), 0);
        due("barred within", w.number(12), 1);
        w.window(3, 3);
        due("one hour", w.number(12), 0);
        w.window(2, 3);
        due("the first and last hour are within", w.number(11), 1);
        w.window(0, 99999);
        due("ones of all", w.number(11), 2);
        due("barred of all", w.number(12), 4);
        w.doubt(0, true);
        due("ones without a doubted one", w.number(11), 1);
        due("barred without a doubted one", w.number(12), 2);
    }

    private static void tells() {
        promise = "8";
        OneHand x = house(2, 0, 3);
        x.officer(0, 0);
        due("tell first", x.tell(0, 0, 1), 0);
        due("tell again", x.tell(0, 0, 3), 1);
        refused("tell none", NO_SUCH, () -> x.tell(3, 0, 1));
        refused("tell no mark", NO_SUCH, () -> x.tell(0, 2, 1));
        refused("tell no mark, no state", NO_SUCH, () -> x.tell(0, -1, 9));
        refused("tell state 4", ARGUMENT, () -> x.tell(0, 0, 4));
        refused("tell state -1", ARGUMENT, () -> x.tell(0, 0, -1));
        x.link(0, 0, 1);
        due("tell late", x.tell(0, 0, 2), 3);
        due("tell after late", x.tell(0, 0, 1), 2);

        promise = "9";
        due("early", x.state(0, 0, false), 3);
        due("late", x.state(0, 0, true), 1);
        x.tell(1, 1, 2);
        due("none that is not late", x.state(1, 1, false), 0);
        due("late alone", x.state(1, 1, true), 2);
        x.forget(0);
        due("late stays late", x.state(1, 1, false), 0);
        x.tell(1, 1, 1);
        due("without a link it is not late", x.state(1, 1, false), 1);
        due("what was told last", x.state(1, 1, true), 1);
        refused("state of none", NO_SUCH, () -> x.state(0, 0, true));
        refused("state of no mark", NO_SUCH, () -> x.state(1, 2, true));

        promise = "10";
        due("doubt", x.doubt(1, true), false);
        due("doubt again", x.doubt(1, true), true);
        due("number(6)", x.number(6), 1);
        due("doubt no more", x.doubt(1, false), true);
        due("was not doubted", x.doubt(1, false), false);
        refused("doubt none", NO_SUCH, () -> x.doubt(3, true));
    }

    private static void solves() {
        promise = "11";
        OneHand x = house(0, 3, 3);
        refused("solve none", NO_SUCH, () -> x.solve(3, 0, 0));
        refused("solve by no hand", NO_SUCH, () -> x.solve(0, 3, 0));
        refused("solve by no other hand", NO_SUCH, () -> x.solve(0, 0, 3));
        refused("solve by one and NONE", NO_SUCH, () -> x.solve(0, 0, -1));
        refused("solve by NONE and one", NO_SUCH, () -> x.solve(0, -1, 0));
        x.solve(0, 0, 1);
        x.solve(1, 1, 2);
        x.solve(2, 2, 2);
        due("a hand in common", x.are(0, 1), 1);
        due("another one", x.are(1, 2), 1);
        due("none in common", x.are(0, 2), 2);
        x.solve(1, -1, -1);
        due("not solved any more", x.are(0, 1), 0);
        x.solve(0, 2, 2);
        due("solved anew", x.are(0, 2), 1);
    }

    private static void pairs() {
        promise = "12";
        OneHand x = house(0, 2, 3);
        due("bar", x.bar(0, 1), true);
        due("bar again", x.bar(1, 0), false);
        refused("bar itself", ARGUMENT, () -> x.bar(0, 0));
        refused("bar none", NO_SUCH, () -> x.bar(3, 3));
        due("barred by telling", x.are(1, 0), 2);

        promise = "13";
        due("neither", x.are(0, 2), 0);
        x.solve(0, 0, 0);
        due("one is solved", x.are(0, 2), 0);
        x.solve(1, 0, 0);
        due("one in spite of being told barred", x.are(0, 1), 1);
        x.solve(1, 1, 1);
        x.solve(0, -1, -1);
        due("told barred for good", x.are(0, 1), 2);
        refused("are itself", ARGUMENT, () -> x.are(0, 0));
        refused("are none", NO_SUCH, () -> x.are(0, 3));
        refused("are none twice", NO_SUCH, () -> x.are(-1, -1));
        OneHand y = house(0, 1, 1);
        y.place(0, 40, 0);
        y.place(0, 41, 0);
        y.deed(1, 10, 10);
        y.deed(2, 10, 10);
        y.deed(2, 0, 0);
        y.deed(2, 4, 20);
        due("10 hours times 4 for 40", y.are(0, 1), 0);
        due("10 hours times 4 for 41", y.are(0, 2), 2);
        due("at the same hour", y.are(0, 3), 2);
        due("the greatest of both", y.are(0, 4), 0);
        due("the greatest of both, 1 apart", y.are(1, 2), 2);
        y.solve(0, 0, 0);
        y.solve(2, 0, 0);
        due("one in spite of being apart", y.are(2, 0), 1);
    }

    private static void links() {
        promise = "14";
        OneHand x = house(0, 2, 4);
        x.officer(0, 0);
        x.officer(0, 0);
        refused("link by none", NO_SUCH, () -> x.link(2, 0, 1));
        refused("link none", NO_SUCH, () -> x.link(0, 4, 4));
        refused("link itself", ARGUMENT, () -> x.link(0, 1, 1));
        due("link", x.link(0, 0, 1), 1);
        due("link again", x.link(0, 1, 0), 2);
        due("link by another", x.link(1, 2, 3), 3);

        promise = "15";
        x.solve(0, 0, 0);
        due("one is solved", x.right(0, false), 0);
        x.solve(1, 1, 1);
        due("both are solved, not one", x.right(0, false), 2);
        due("not right", x.right(0, true), 0);
        x.solve(1, 0, 1);
        due("right", x.right(0, true), 2);
        due("not wrong", x.right(0, false), 0);
        due("of another", x.right(1, true), 0);
        refused("right of none", NO_SUCH, () -> x.right(2, true));
        x.doubt(0, true);
        due("right of a doubted one", x.right(0, true), 2);
        x.forget(0);
        due("links are gone", x.number(7), 1);
        due("right no more", x.right(0, true), 0);
        promise = "14";
        for (int k = 2; k <= 40; k++) {
            due("link " + k, x.link(0, 1, 2), k);
        }
        due("a 41st link", x.link(0, 1, 2), -1);
        refused("a wrong 41st link", ARGUMENT, () -> x.link(0, 2, 2));
        due("number(7)", x.number(7), 40);
    }

    // ---- promises 18 to 23

    private static void likeness() {
        OneHand x = two();
        promise = "18";
        due("one, 2", x.count(0, true, 2, false), 1);
        due("one, 1", x.count(0, true, 1, false), 0);
        due("one, 0", x.count(0, true, 0, false), 1);
        due("one, all", x.count(0, true, 3, false), 2);
        due("two, 2", x.count(0, false, 2, false), 0);
        due("two, 1", x.count(0, false, 1, false), 4);
        due("two, all", x.count(0, false, 3, false), 4);
        due("of another mark", x.count(1, false, 3, false), 0);
        x.bar(4, 5);
        x.bar(0, 4);
        due("told barred, 1", x.count(0, false, 1, false), 5);
        due("told barred, 2", x.count(0, false, 2, false), 1);
        refused("of no mark and outcome", NO_SUCH, () -> x.count(2, true, 4, false));
        refused("outcome 4", ARGUMENT, () -> x.count(0, true, 4, false));
        refused("outcome -1", ARGUMENT, () -> x.count(0, true, -1, false));
        x.doubt(4, true);
        due("without a doubted one", x.count(0, false, 3, false), 4);
        x.window(0, 2);
        due("within", x.count(0, false, 3, false), 2);
        OneHand late = two();
        late.officer(0, 0);
        late.link(0, 2, 3);
        late.tell(2, 0, 2);
        due("early", late.count(0, true, 1, false), 0);
        due("late", late.count(0, true, 1, true), 1);

        promise = "19";
        OneHand y = two();
        due("n by N and 2", y.span(0, true, 2, false, false), 250);
        due("n and 2 by N and 2", y.span(0, true, 2, false, true), 750);
        due("rounded down", y.span(0, false, 1, false, false), 666);
        due("even", y.span(0, false, 1, false, true), 1000);
        due("rounded up", y.span(0, false, 0, false, true), 334);
        due("none at all", y.span(1, true, 0, false, true), 1000);
        refused("of no mark", NO_SUCH, () -> y.span(2, true, 3, false, true));
        refused("outcome 3", ARGUMENT, () -> y.span(0, true, 3, false, true));
        refused("outcome -1", ARGUMENT, () -> y.span(0, true, -1, false, true));

        tree();
        worths();
    }

    private static void tree() {
        promise = "20";
        OneHand x = house(4, 0, 5);
        tellAll(x, 0, 2, 2, 2, 1, 1);
        tellAll(x, 1, 2, 1, 3, 1, 2);
        due("weight", x.weight(0, 1, false), 0);
        x.tell(4, 1, 1);
        due("1 and 2, 1 and 0", x.weight(0, 1, false), 2);
        due("the other way", x.weight(1, 0, false), 2);
        tellAll(x, 1, 1, 1, 1, 2, 2);
        due("without sign", x.weight(0, 1, false), 6);
        refused("weight of one", ARGUMENT, () -> x.weight(1, 1, false));
        refused("weight of none", NO_SUCH, () -> x.weight(4, 4, false));
        refused("weight of one and none", NO_SUCH, () -> x.weight(0, 4, false));
        refused("weight of none and one", NO_SUCH, () -> x.weight(-1, 0, false));
        x.doubt(0, true);
        due("without a doubted one", x.weight(0, 1, false), 4);
        x.window(2, 4);
        due("within", x.weight(0, 1, false), 2);

        promise = "21";
        due("no parent", x.parent(0, false), -1);
        due("parent", x.parent(1, false), 0);
        due("none for a mark apart", x.parent(2, false), -1);
        refused("parent of none", NO_SUCH, () -> x.parent(4, false));
        OneHand like = house(3, 0, 4);
        tellAll(like, 0, 2, 2, 1, 1);
        tellAll(like, 1, 2, 2, 1, 1);
        tellAll(like, 2, 2, 2, 1, 1);
        due("of like ones the lesser mark", like.parent(1, false), 0);
        due("of like ones the lesser other mark", like.parent(2, false), 0);
        OneHand chain = house(4, 0, 6);
        tellAll(chain, 1, 2, 2, 2, 1, 1, 1);
        tellAll(chain, 3, 2, 2, 2, 1, 1, 1);
        tellAll(chain, 2, 2, 2, 1, 1, 1, 0);
        tellAll(chain, 0, 1, 0, 2, 0, 0, 0);
        due("1 and 3 weigh most", chain.weight(1, 3, false), 9);
        due("2 weighs the same with both", chain.weight(1, 2, false) - chain.weight(2, 3, false), 0);
        due("0 hangs on the one it weighs with", chain.weight(0, 2, false), 1);
        due("the way to the root goes on", chain.parent(2, false), 0);
        due("by the lesser of like ones", chain.parent(1, false), 2);
        due("the last of the way", chain.parent(3, false), 1);
        due("the root", chain.parent(0, false), -1);
        OneHand late = house(2, 0, 4);
        late.officer(0, 0);
        tellAll(late, 0, 2, 2, 1, 1);
        late.link(0, 0, 1);
        late.link(0, 2, 3);
        tellAll(late, 1, 2, 2, 1, 1);
        due("early", late.parent(1, false), -1);
        due("late", late.parent(1, true), 0);
    }

    private static void worths() {
        OneHand x = two();
        promise = "22";
        due("both there", x.worth(0, 1, false), 96);
        due("both not there", x.worth(3, 2, false), 96);
        due("one of both", x.worth(0, 2, false), -112);
        due("of those not solved", x.worth(4, 5, false), -112);
        due("of one doubted", x.doubt(4, true), false);
        due("of one doubted", x.worth(0, 4, false), 96);
        refused("worth of one", ARGUMENT, () -> x.worth(0, 0, false));
        refused("worth of none", NO_SUCH, () -> x.worth(6, 6, false));

        promise = "23";
        tellAll(x, 1, 2, 2, 1, 1, 2, 3);
        x.tell(4, 0, 3);
        due("parent", x.parent(1, false), 0);
        due("of pairs alike in the parent, one", x.by(0, 1, 1, false), 32);
        due("of pairs alike in the parent, two", x.by(0, 2, 1, false), -64);
        due("the parent is unknown", x.by(0, 4, 1, false), 96);
        due("the root", x.by(0, 1, 0, false), 96);
        due("unknown", x.by(0, 5, 1, false), 0);
        due("unknown by the other one", x.by(0, 4, 0, false), 0);
        promise = "22";
        due("of all marks", x.worth(0, 1, false), 128);
        due("of all marks, below 0", x.worth(0, 2, false), -176);
        promise = "23";
        refused("by for one", ARGUMENT, () -> x.by(0, 0, 0, false));
        refused("by for one and no mark", NO_SUCH, () -> x.by(0, 0, 2, false));
        refused("by for none", NO_SUCH, () -> x.by(6, 6, 0, false));
        refused("by for one and none", NO_SUCH, () -> x.by(0, 6, 0, false));
        refused("by for none and one", NO_SUCH, () -> x.by(-1, 0, 0, false));
        OneHand fresh = two();
        due("by is the first call", fresh.by(0, 1, 0, false), 96);
        fresh.tell(2, 0, 2);
        due("by all that is told", fresh.by(2, 3, 0, false), 0);
        many();
        OneHand none = house(1, 0, 2);
        tellAll(none, 0, 2, 2);
        due("nothing is known", none.worth(0, 1, false), 0);
        OneHand late = two();
        late.officer(0, 0);
        late.link(0, 0, 5);
        late.tell(5, 0, 2);
        due("early", late.worth(0, 5, false), -112);
        due("late", late.worth(0, 5, true), 96);
    }

    /** 30 DEEDS of one HAND and 30 of another one: 870 pairs that are ONE, 900 that are BARRED. */
    private static void many() {
        promise = "22";
        OneHand x = house(1, 2, 60);
        for (int k = 0; k < 60; k++) {
            x.solve(k, k % 2, k % 2);
            x.tell(k, 0, 1 + k % 2);
        }
        due("number(11)", x.number(11), 870);
        due("number(12)", x.number(12), 900);
        due("with great counts", x.worth(1, 3, false), 557 - 621 + 624);
        due("with great counts, one there", x.worth(1, 2, false), -621);
        promise = "28";
        due("all of a hand", x.joined(59, false), 1);
        due("all of the other hand", x.joined(58, false), 0);
        promise = "29";
        due("all pairs of a hand", x.bound(false), 870 * 560);
        promise = "30";
        for (int k = 0; k < 60; k++) {
            x.solve(k, 0, 1);
        }
        due("59 steps of two hands", x.moves(0, 0), 118);
    }

    // ---- promises 24 to 29

    private static void partings() {
        OneHand x = two();
        promise = "24";
        due("all in one part", x.best(0b010011, false), 288);
        due("two barred", x.best(0b010101, false), 96);
        due("of two", x.best(0b100001, false), 0);
        refused("a set of one", ARGUMENT, () -> x.best(1, false));
        refused("an empty set", ARGUMENT, () -> x.best(0, false));
        refused("not of deeds", ARGUMENT, () -> x.best(0b1000011, false));
        refused("far from deeds", ARGUMENT, () -> x.best(Long.MIN_VALUE | 3, false));

        promise = "25";
        due("first", x.part(0b010101, false, 0), 0);
        due("second", x.part(0b010101, false, 2), 1);
        due("third", x.part(0b010101, false, 4), 0);
        due("not in the set", x.part(0b010101, false, 1), -1);
        due("no deed", x.part(0b010101, false, Integer.MIN_VALUE), -1);
        due("64 is not 0", x.part(0b010101, false, 64), -1);
        refused("of no set", ARGUMENT, () -> x.part(1, false, 0));

        promise = "26";
        due("best alone", x.near(0b010101, false, 0), 1);
        due("just not", x.near(0b010101, false, 95), 1);
        due("just", x.near(0b010101, false, 96), 2);
        due("just not all", x.near(0b010101, false, 207), 2);
        due("all", x.near(0b010101, false, 208), 3);
        due("all of them", x.near(0b010101, false, 1000000), 3);
        refused("t -1", ARGUMENT, () -> x.near(3, false, -1));
        refused("t 1000001", ARGUMENT, () -> x.near(3, false, 1000001));
        refused("near of no set", ARGUMENT, () -> x.near(1, false, 0));

        promise = "27";
        due("surely one", x.sure(0b010101, false, 0, 0, 4), 1);
        due("surely two", x.sure(0b010101, false, 0, 2, 4), 2);
        due("surely two by hand", x.sure(0b010101, false, 1000, 2, 0), 2);
        due("could", x.sure(0b010101, false, 96, 4, 0), 0);
        due("still surely two", x.sure(0b010101, false, 207, 2, 4), 2);
        due("could as well", x.sure(0b010101, false, 208, 2, 4), 0);
        refused("not of the set", ARGUMENT, () -> x.sure(0b010101, false, 0, 0, 1));
        refused("the same", ARGUMENT, () -> x.sure(0b010101, false, 0, 0, 0));
        refused("64 is not 0", ARGUMENT, () -> x.sure(0b010101, false, 0, 64, 2));
        refused("-64 is not 0", ARGUMENT, () -> x.sure(0b010101, false, 0, 2, -64));
        refused("sure for t -1", ARGUMENT, () -> x.sure(0b010101, false, -1, 0, 4));
        rows();
        noParting();
        joins();
    }

    private static void rows() {
        OneHand x = house(1, 1, 10);
        promise = "25";
        due("of like ones all in part 0", x.part(0b111, false, 2), 0);
        x.bar(0, 1);
        due("0, 1 is ahead", x.part(0b111, false, 1), 1);
        due("0, 1, 0 is ahead", x.part(0b111, false, 2), 0);
        x.bar(0, 2);
        due("0, 1, 1 is ahead", x.part(0b111, false, 2), 1);
        promise = "26";
        due("nine of any kind", x.near(0b1111111110, false, 0), -3);
        due("eight of any kind", x.near(0b111111110, false, 0), 4140);
        refused("ten", ARGUMENT, () -> x.near(0b1111111111, false, 0));
        x.bar(8, 9);
        due("nine but for two barred", x.near(0b1111111110, false, 0), 21147 - 4140);
        due("two told one of hand", x.near(0b11000, false, 0), 2);
        x.solve(3, 0, 0);
        x.solve(4, 0, 0);
        due("two that are one", x.near(0b11000, false, 0), 1);
        due("20,000", drawn(4).near(0b111111111, false, 1575), 20000);
        due("20,001", drawn(1).near(0b111111111, false, 1923), -3);
        promise = "27";
        due("20,000", drawn(4).sure(0b111111111, false, 1575, 0, 1), 0);
        due("20,001", drawn(1).sure(0b111111111, false, 1923, 0, 1), -3);
        OneHand y = house(0, 0, 9);
        due("spent", y.sure(0b111111111, false, 0, 0, 1), -3);
        promise = "24";
        due("best in spite of that", y.best(0b111111111, false), 0);
    }

    /** Nine DEEDS that nobody solved and eight of two HANDS, with STATES drawn from a seed. */
    private static OneHand drawn(int seed) {
        OneHand x = house(8, 2, 17);
        long goes = seed;
        for (int d = 0; d < 17; d++) {
            if (d >= 9) {
                x.solve(d, d % 2, d % 2);
            }
            for (int m = 0; m < 8; m++) {
                goes = (goes * 1103515245L + 12345L) % (1L << 31);
                x.tell(d, m, 1 + (int) (goes / 65536 % 2));
            }
        }
        return x;
    }

    private static void noParting() {
        OneHand x = house(1, 2, 3);
        x.solve(0, 0, 0);
        x.solve(1, 1, 1);
        x.solve(2, 0, 1);
        promise = "24";
        refused("best without a parting", STATE, () -> x.best(7, false));
        promise = "25";
        refused("part without a parting", STATE, () -> x.part(7, false, 5));
        promise = "26";
        refused("near without a parting", STATE, () -> x.near(7, false, 0));
        refused("near without a parting and t", ARGUMENT, () -> x.near(7, false, -1));
        promise = "27";
        refused("sure without a parting", STATE, () -> x.sure(7, false, 0, 0, 1));
        refused("sure without a parting and of no two", ARGUMENT, () -> x.sure(7, false, 0, 0, 3));
        promise = "40";
        refused("look without a parting", STATE, () -> x.look(7, false, 0, 0));
        x.tell(0, 0, 1);
        x.tell(1, 0, 1);
        x.tell(2, 0, 1);
        refused("no look, without a parting", STATE, () -> x.look(7, false, 0, 0));
        promise = "24";
        x.doubt(2, true);
        refused("of a doubted one", ARGUMENT, () -> x.best(7, false));
    }

    private static void joins() {
        OneHand x = two();
        x.bar(5, 2);
        promise = "28";
        due("0", x.joined(0, false), 0);
        due("1", x.joined(1, false), 0);
        due("2", x.joined(2, false), 2);
        due("3", x.joined(3, false), 2);
        due("4", x.joined(4, false), 0);
        due("5 is barred from 2", x.joined(5, false), 5);
        refused("joined of none", NO_SUCH, () -> x.joined(6, false));
        promise = "29";
        due("all above 0 that are not barred", x.bound(false), 3 * 112 + 2 * 48);
        promise = "28";
        x.solve(2, -1, -1);
        x.solve(3, -1, -1);
        due("worth below 0 alone", x.joined(3, false), 3);
        x.doubt(0, true);
        refused("joined of a doubted one", STATE, () -> x.joined(0, false));
        due("without a doubted one", x.joined(4, false), 1);
        promise = "29";
        OneHand y = two();
        due("bound", y.bound(false), 6 * 96);
        y.doubt(0, true);
        due("bound without a doubted one", y.bound(false), 16 + 3 * 80);
        OneHand none = house(1, 0, 3);
        due("of nothing", none.bound(true), 0);
        promise = "28";
        due("nothing is worth above 0", none.joined(2, true), 2);
    }

    // ---- promises 30 to 39

    /** PLACES 0, 9, 10, 49, 50 to the right of PLACE 0; HANDS at home in 0, nowhere, in 5. */
    private static OneHand trails() {
        OneHand x = new OneHand();
        x.place(0, 0, 0);
        x.place(0, 0, 1);
        x.place(9, 0, 0);
        x.place(10, 0, 0);
        x.place(49, 0, 0);
        x.place(25, 25, 0);
        x.mark();
        x.hand(0);
        x.hand(OneHand.NONE);
        x.hand(5);
        x.go(10000);
        return x;
    }

    private static void trail(OneHand x, int hand, int... placesAndHours) {
        for (int k = 0; k < placesAndHours.length; k += 2) {
            int deed = x.deed(placesAndHours[k], placesAndHours[k + 1], 9000);
            x.solve(deed, hand, hand);
        }
    }

    private static void hands() {
        OneHand x = trails();
        trail(x, 0, 0, 0, 1, 23, 0, 47, 2, 214, 0, 382, 3, 1101, 0, 1821);
        promise = "30";
        due("no way in 23 and 24", x.moves(0, 0), 1);
        due("no way in 24", x.moves(0, 1), 1);
        due("9 in 167", x.moves(1, 1), 1);
        due("9 in 168", x.moves(1, 2), 1);
        due("10 in 719", x.moves(2, 2), 1);
        due("10 in 720", x.moves(2, 3), 1);
        due("none", x.moves(3, 0), 0);
        trail(x, 1, 0, 5, 4, 10, 0, 10, 5, 0);
        due("25 and 25 at once is far", x.moves(3, 0), 1);
        due("49, and by number at the same hour", x.moves(2, 0), 2);
        x.solve(8, 1, 0);
        due("a deed of two hands is a step of both", x.moves(2, 0), 4);
        x.doubt(8, true);
        due("without a doubted one", x.moves(2, 0), 0);
        refused("far 4", ARGUMENT, () -> x.moves(4, 0));
        refused("soon 4", ARGUMENT, () -> x.moves(0, 4));
        refused("far -1", ARGUMENT, () -> x.moves(-1, 0));
        refused("soon -1", ARGUMENT, () -> x.moves(0, -1));
        changes();
        shares();
        promise = "32";
        OneHand fresh = house(0, 0, 1);
        due("share is the first call", fresh.share(0, 0, 0), 10000);
        likely();
        stopped();
        guesses();
    }

    private static void changes() {
        promise = "31";
        OneHand x = trails();
        trail(x, 0, 0, 20, 0, 10, 0, 30, 0, 40);
        trail(x, 1, 0, 1, 0, 2);
        tellAll(x, 0, 2, 1, 2, 0, 1, 3);
        due("by hour: 1 to 2", x.changes(0, 1, 2, false), 1);
        due("2 to 2", x.changes(0, 2, 2, false), 1);
        due("2 to 1", x.changes(0, 2, 1, false), 0);
        due("1 to 1", x.changes(0, 1, 1, false), 0);
        x.officer(0, 0);
        x.link(0, 3, 5);
        x.tell(3, 0, 1);
        x.tell(5, 0, 1);
        due("early", x.changes(0, 2, 1, false), 0);
        due("late", x.changes(0, 2, 1, true), 1);
        due("of another hand", x.changes(0, 1, 1, true), 1);
        refused("of no mark", NO_SUCH, () -> x.changes(1, 0, 3, false));
        refused("from 0", ARGUMENT, () -> x.changes(0, 0, 1, false));
        refused("to 3", ARGUMENT, () -> x.changes(0, 1, 3, false));
    }

    private static void shares() {
        promise = "32";
        OneHand x = new OneHand();
        x.place(0, 0, 0);
        x.place(50, 0, 0);
        x.place(90, 0, 0);
        x.hand(OneHand.NONE);
        x.go(100);
        x.deed(1, 0, 90);
        due("of like rests the lesser", x.share(0, 0, 0), 3334);
        due("not the greater", x.share(0, 0, 1), 3333);
        x.solve(0, 0, 0);
        int deed = x.deed(1, 10, 90);
        x.solve(deed, 0, 0);
        due("half of it", x.share(0, 0, 1), 5000);
        due("a quarter", x.share(0, 0, 0), 2500);
        due("by another soon", x.share(0, 1, 1), 3333);
        x.solve(x.deed(1, 11, 90), 0, 0);
        x.solve(x.deed(2, 11, 90), 0, 0);
        due("3 of 6", x.share(0, 0, 1), 5000);
        due("2 of 6, with the lesser rest", x.share(0, 0, 2), 3333);
        due("1 of 6, with the greatest rest", x.share(0, 0, 0), 1667);
        refused("of none", NO_SUCH, () -> x.share(4, 4, 0));
        refused("of no place", NO_SUCH, () -> x.share(0, 4, 3));
        refused("soon 4", ARGUMENT, () -> x.share(0, 4, 0));
        refused("soon -1", ARGUMENT, () -> x.share(0, -1, 0));
        x.doubt(0, true);
        due("behind a doubted one", x.share(0, 3, 0), 3334);
    }

    private static void likely() {
        OneHand x = new OneHand();
        x.place(0, 0, 0);
        x.place(50, 0, 0);
        x.place(90, 0, 0);
        x.hand(OneHand.NONE);
        x.go(100);
        x.deed(1, 0, 90);
        x.deed(2, 10, 90);
        promise = "33";
        due("one is enough", x.likely(0, 0, 1), 0b001);
        due("just enough", x.likely(0, 0, 3334), 0b001);
        due("just not", x.likely(0, 0, 3335), 0b011);
        due("all", x.likely(0, 0, 10000), 0b111);
        x.solve(0, 0, 0);
        x.solve(1, 0, 0);
        x.bar(0, 1);
        due("the greatest first", x.likely(1, 0, 1), 0b010);
        refused("of none", NO_SUCH, () -> x.likely(2, 9, 0));
        refused("soon 4", ARGUMENT, () -> x.likely(0, 4, 1));
        refused("s 0", ARGUMENT, () -> x.likely(0, 0, 0));
        refused("s 10001", ARGUMENT, () -> x.likely(0, 0, 10001));
        promise = "34";
        refused("keep of none", NO_SUCH, () -> x.keep(2, 9, 0));
        refused("keep soon -1", ARGUMENT, () -> x.keep(0, -1, 1));
        refused("keep s 0", ARGUMENT, () -> x.keep(0, 0, 0));
        for (int k = 0; k < 20; k++) {
            due("keep", x.keep(1, 0, k == 0 ? 1 : 10000), k);
        }
        due("a 21st map", x.keep(1, 0, 1), -1);
        refused("a wrong 21st map", ARGUMENT, () -> x.keep(1, 0, 10001));
        due("number(8)", x.number(8), 20);
        promise = "35";
        refused("no such map", NO_SUCH, () -> x.came(20, 0));
        refused("map -1", NO_SUCH, () -> x.came(-1, 0));
        refused("came by none", NO_SUCH, () -> x.came(0, 2));
        x.solve(0, -1, -1);
        due("it is kept as it was", x.came(0, 1), false);
        refused("it is known", STATE, () -> x.came(0, 0));
        refused("it is known, but of none", NO_SUCH, () -> x.came(0, 2));
        due("another", x.came(1, 1), true);
        due("one more", x.came(2, 0), true);
        promise = "36";
        due("came true", x.record(true), 2);
        due("did not", x.record(false), 1);
    }

    private static void stopped() {
        promise = "37";
        OneHand x = two();
        x.solve(2, -1, -1);
        x.solve(3, -1, -1);
        x.window(90, 99);
        due("longest step is 1", x.stopped(0, false), true);
        x.solve(5, 0, 0);
        due("longest step is 4", x.stopped(5, false), true);
        OneHand y = house(0, 1, 3);
        due("no steps", y.stopped(0, false), false);
        refused("of none", NO_SUCH, () -> y.stopped(3, false));
        y.solve(0, 0, 0);
        y.solve(2, 0, 0);
        due("longer than 2", y.stopped(0, false), true);
        int deed = y.deed(0, 52, 90);
        y.solve(deed, 0, 0);
        due("48 for the last, 50 the longest", y.stopped(deed, false), false);
        due("100 for the first", y.stopped(0, false), true);
        y.go(2);
        due("50 for the last, 50 the longest", y.stopped(deed, false), false);
        y.go(1);
        due("51 for the last", y.stopped(deed, false), true);
        y.doubt(2, true);
        due("52 is the longest", y.stopped(deed, false), false);
        refused("of a doubted one", STATE, () -> y.stopped(2, false));
        OneHand z = two();
        z.deed(0, 60, 60);
        z.tell(6, 0, 2);
        z.solve(5, 1, 1);
        z.solve(z.deed(0, 58, 58), 1, 1);
        due("6 joins 0", z.joined(6, false), 0);
        due("40 for the latest of the group, 53 the longest", z.stopped(0, false), false);
        due("42 for the one that joins none", z.stopped(7, false), false);
    }

    private static void guesses() {
        promise = "38";
        OneHand x = trails();
        x.deed(2, 0, 100);
        x.deed(4, 0, 100);
        due("of like ones the lesser", x.guess(0b11), 2);
        due("of one", x.guess(0b10), 4);
        x.deed(4, 0, 100);
        due("the least together", x.guess(0b111), 4);
        x.deed(0, 0, 100);
        due("a place of no deed", x.guess(0b1011), 2);
        x.deed(1, 0, 100);
        due("at the same place the lesser", x.guess(0b10000), 0);
        refused("of nothing", ARGUMENT, () -> x.guess(0));
        refused("of none", ARGUMENT, () -> x.guess(0b100000));
        x.doubt(0, true);
        refused("of a doubted one", ARGUMENT, () -> x.guess(1));

        promise = "39";
        OneHand y = trails();
        trail(y, 0, 2, 0);
        trail(y, 1, 2, 0, 2, 1);
        due("a hand with one deed, a hand without a home", y.homes(198, true) + y.homes(198, false), 0);
        trail(y, 0, 2, 5);
        due("just within", y.homes(9, true), 1);
        due("just within: it is", y.homes(9, false), 0);
        due("just not", y.homes(8, true), 0);
        due("just not: it is not", y.homes(8, false), 1);
        trail(y, 2, 5, 0, 5, 1);
        due("both hands", y.homes(9, true), 2);
        due("one of them", y.homes(0, true), 1);
        y.doubt(0, true);
        due("without a doubted one", y.homes(9, true), 1);
        refused("within -1", ARGUMENT, () -> y.homes(-1, true));
        refused("within 199", ARGUMENT, () -> y.homes(199, true));
    }

    // ---- promises 40 to 42

    private static void chance() {
        promise = "40";
        OneHand x = two();
        x.tell(4, 0, 0);
        due("the deed", x.look(0b010001, false, 0, 0), 4);
        due("the mark", x.look(0b010001, false, 0, 1), 0);
        due("the number", x.look(0b010001, false, 0, 2), 0);
        due("of like ones the lesser deed", x.look(0b010001, false, 1000000, 0), 0);
        due("of like ones the lesser mark", x.look(0b010001, false, 1000000, 1), 1);
        due("the number for great t", x.look(0b010001, false, 1000000, 2), 1);
        refused("a set of one", ARGUMENT, () -> x.look(1, false, 0, 0));
        refused("a set of six", ARGUMENT, () -> x.look(0b111111, false, 0, 0));
        refused("t -1", ARGUMENT, () -> x.look(3, false, -1, 0));
        refused("what 3", ARGUMENT, () -> x.look(3, false, 0, 3));
        refused("what -1", ARGUMENT, () -> x.look(3, false, 0, -1));
        due("nothing is told by it", x.state(4, 0, true), 0);
        due("the greater number of both answers", x.look(0b010001, false, 100, 2), 1);
        due("a set of five", x.look(0b011111, false, 0, 1), 0);
        tellAll(x, 1, 3, 1, 1, 1, 3, 1);
        x.tell(4, 0, 3);
        due("no look", x.look(0b010001, false, 0, 2), -1);
        OneHand late = two();
        late.officer(0, 0);
        late.link(0, 4, 5);
        late.tell(4, 1, 1);
        late.tell(5, 1, 1);
        due("early it is not looked for", late.look(0b110000, false, 0, 0), 4);
        due("late it is", late.look(0b110000, true, 0, 0), -1);

        promise = "41";
        OneHand y = two();
        due("all", y.others(0, 1000, false, true), 2);
        due("none of 96", y.others(0, 96, false, false), 0);
        due("of -112", y.others(0, -112, false, false), 2);
        due("of -111", y.others(0, -111, false, false), 0);
        y.doubt(2, true);
        due("without a doubted one", y.others(0, 0, false, true), 1);
        due("of a doubted one", y.others(2, 0, false, true), 2);
        refused("of none", NO_SUCH, () -> y.others(6, 0, false, true));

        lots();
    }

    private static void lots() {
        promise = "42";
        OneHand x = house(2, 1, 3);
        x.solve(1, 0, 0);
        x.solve(2, 0, 0);
        tellAll(x, 0, 2, 2, 1);
        tellAll(x, 1, 2, 2, 1);
        due("parent", x.parent(1, false), 0);
        due("neither in both marks", x.worth(0, 2, false), 64);
        due("in both marks", x.worth(0, 1, false), -32);
        for (int seed : new int[] {0, 1, 7, 65536, 123456789, Integer.MAX_VALUE}) {
            long goes = seed;
            int often = 0;
            for (int time = 0; time < 20; time++) {
                goes = (goes * 1103515245L + 12345L) % (1L << 31);
                boolean first = goes / 65536 % 2 == 0;
                goes = (goes * 1103515245L + 12345L) % (1L << 31);
                boolean second = goes / 65536 % 2 == 0;
                often += first == second ? 1 : 0;
            }
            due("both marks dealt alike, seed " + seed, x.lots(0, 64, seed, 20, false), often);
        }
        due("always", x.lots(0, -32, 5, 20, false), 20);
        due("never", x.lots(0, 65, 5, 20, false), 0);
        due("once", x.lots(0, -32, 5, 1, false), 1);
        due("the states are as they were", x.worth(0, 2, false), 64);
        refused("of none", NO_SUCH, () -> x.lots(3, 0, -1, 0, false));
        refused("seed -1", ARGUMENT, () -> x.lots(0, 0, -1, 1, false));
        refused("no times", ARGUMENT, () -> x.lots(0, 0, 0, 0, false));
        refused("21 times", ARGUMENT, () -> x.lots(0, 0, 0, 21, false));
        x.doubt(0, true);
        refused("of a doubted one", STATE, () -> x.lots(0, 0, 0, 1, false));
        refused("of a doubted one, no times", ARGUMENT, () -> x.lots(0, 0, 0, 0, false));
        OneHand alone = house(1, 0, 1);
        due("no other deeds", alone.lots(0, -1000, 0, 20, false), 0);
        OneHand fresh = two();
        due("lots is the first call", fresh.lots(0, 96, 0, 1, false), 1);
    }

    // ---- promises 43 to 48

    private static void rights() {
        promise = "43";
        OneHand x = house(1, 0, 1);
        for (int k = 1; k <= 15; k++) {
            due("feed", x.feed(0x20202020, 0, -1, 0, 0), 20 * k);
        }
        due("a 16th time", x.feed(0, 0, 0, 0, 0), -1);
        due("number(10)", x.number(10), 300);

        promise = "44";
        refused("text(-1)", ARGUMENT, () -> x.text(-1));
        refused("text(301)", ARGUMENT, () -> x.text(301));
        due("bytes that are none", x.text(300), -11);
        due("at", x.fault(1), 4);
        due("the tape is empty", x.number(10), 0);
        due("the highest byte first", text(x, "bar;let;"), 2);
        due("number(9)", x.number(9), 2);
        due("a byte above 127", feed(x, "let\u00e9;"), 20);
        due("a byte above 127", x.text(5), -11);
        due("at its place", x.fault(1), 3);
        due("the one ahead stays", x.number(9), 2);
        due("blanks", text(x, " let\n  ;\nbar ; "), 2);
        due("no text", text(x, "   "), 0);
        due("a line", text(x, "let;"), 1);
        due("no bytes", x.text(0), 0);
        due("no lines then", x.number(9), 0);
        lengths(x);
        words(x);
        faults(x);
        depths(x);

        promise = "45";
        due("no fault", text(x, "let;"), 1);
        due("fault(0)", x.fault(0), 0);
        due("fault(1)", x.fault(1), -1);
        due("fault(2)", x.fault(2), -1);
        due("fault(-1)", x.fault(-1), -1);
        text(x, "let let");
        refused("text that throws", ARGUMENT, () -> x.text(1));
        due("fault(0) of the latest that threw nothing", x.fault(0), 2);
        due("fault(1) of the latest that threw nothing", x.fault(1), 4);
        lets();
        keeps();
    }

    /** TEXTS that fill the tape, with as many TOKENS as it takes. */
    private static void lengths(OneHand x) {
        String sum = "keep 1" + "+1".repeat(146);
        due("300 bytes", text(x, sum + " ;"), 1);
        due("kept", x.kept(0), 147);
        due("300 bytes without a blank", text(x, sum + "1;"), 1);
        due("kept", x.kept(0), 157);
        faulty(x, sum + "+1", 2, 300);
        faulty(x, "let if " + "[".repeat(293), 4, 12);
        faulty(x, ";".repeat(300), 2, 0);
        faulty(x, "let if 1=" + "0+".repeat(145) + "1", 2, 300);
        due("a long test", text(x, "let if 1=1" + " or 1=1".repeat(41) + "  ;"), 1);
    }

    /** Each word with one letter put in the place of another one, or behind it, where the word might stand. */
    private static void words(OneHand x) {
        String[] before = {"", "", "", "let ", "let if 1=1 ", "let if 1=1 ", "let if "};
        String[] all = {"let", "bar", "keep", "if", "or", "and", "not",
            "rank", "land", "age", "solved", "doubted", "there", "links"};
        for (int word = 0; word < all.length; word++) {
            String ahead = before[Math.min(word, 6)];
            for (int k = 0; k <= all[word].length(); k++) {
                String spoiled = all[word].substring(0, k) + "z"
                        + all[word].substring(Math.min(all[word].length(), k + 1));
                faulty(x, ahead + spoiled + " ;", 2, ahead.length());
            }
            text(x, ahead + all[word]);
            due("the whole word " + all[word], x.fault(1), ahead.length() + all[word].length());
        }
    }

    private static void faulty(OneHand x, String text, int kind, int place) {
        due("\"" + text + "\"", text(x, text), kind == 0 ? -100 : -10 - kind);
        due("the fault of \"" + text + "\"", x.fault(0), kind);
        due("its place in \"" + text + "\"", x.fault(1), place);
    }

    private static void faults(OneHand x) {
        faulty(x, "let;Bar;", 1, 4);
        faulty(x, "let,", 1, 3);
        faulty(x, "let\t;", 1, 3);
        faulty(x, "keep 123456;", 1, 5);
        faulty(x, "keep 1234567", 1, 5);
        faulty(x, "let 123456", 1, 4);
        faulty(x, "let 12345", 2, 4);
        due("5 digits", text(x, "keep 12345;keep 00000;"), 2);
        faulty(x, "let", 2, 3);
        faulty(x, "let  \n", 2, 6);
        faulty(x, "lets;", 2, 0);
        faulty(x, "letbar;", 2, 0);
        faulty(x, "doubtedly;", 2, 0);
        faulty(x, "let;;", 2, 4);
        faulty(x, "let if rank;", 2, 11);
        faulty(x, "let if rank<1<2;", 2, 13);
        faulty(x, "let if (rank<1);", 2, 12);
        faulty(x, "let if [rank];", 2, 12);
        faulty(x, "let if [rank<1;", 2, 14);
        faulty(x, "let if rank<1];", 2, 13);
        faulty(x, "let if rank<1);", 2, 13);
        faulty(x, "let if (rank;", 2, 12);
        faulty(x, "let if let<1;", 2, 7);
        faulty(x, "let rank;", 2, 4);
        faulty(x, "keep;", 2, 4);
        faulty(x, "keep -1;", 2, 5);
        faulty(x, "keep 1 2;", 2, 7);
        faulty(x, "keep 1 if 1=1 if 1=1;", 2, 14);
        faulty(x, "let if 1=1 and;", 2, 14);
        faulty(x, "let if 1=1 or or 1=1;", 2, 14);
        faulty(x, "let if not;", 2, 10);
        faulty(x, "let if 1=1 not 1=1;", 2, 11);
        faulty(x, "if 1=1;", 2, 0);
        faulty(x, "bar;bar;bar;bar;bar;bar;bar;bar;bar;bar;bar;bar; let;", 3, 49);
        faulty(x, "bar;bar;bar;bar;bar;bar;bar;bar;bar;bar;bar;bar; ;", 2, 49);
        faulty(x, "bar;bar;bar;bar;bar;bar;bar;bar;bar;bar;bar;bar; !", 1, 49);
        due("12 lines", text(x, "bar;bar;bar;bar;bar;bar;bar;bar;bar;bar;bar;bar; "), 12);
    }

    private static void depths(OneHand x) {
        due("five nots", text(x, "let if not not not not not 1=1;"), 1);
        faulty(x, "let if not not not not not not 1=1;", 4, 27);
        due("five round ones", text(x, "keep (((((1)))));"), 1);
        faulty(x, "keep ((((((1))))));", 4, 10);
        due("five square ones", text(x, "let if [[[[[1=1]]]]];"), 1);
        faulty(x, "let if [[[[[[1=1]]]]]];", 4, 12);
        faulty(x, "let if not [not [not 1=1]];let if not [not [not 1=(1)]];", 4, 50);
        due("a not ends with its one", text(x, "let if not 1=1 and not not not not not 1=1 or [[[[[1=1]]]]];"), 1);
        due("brackets end", text(x, "keep (1)+(1)+(1)+(1)+(1)+(1)*(1);"), 1);
        faulty(x, "let if not not not not not (1)=1;", 4, 27);
        faulty(x, "let if [[[[[1=1 and not 1=1]]]]];", 4, 20);
        faulty(x, "let if [[[[[(", 4, 12);
        faulty(x, "keep ((((([", 2, 10);
        faulty(x, "keep (((((not", 2, 10);
    }

    private static void lets() {
        OneHand x = house(2, 1, 2);
        x.place(0, 0, 3);
        x.officer(0, 4);
        x.officer(3, 0);
        x.deed(1, 0, 0);
        promise = "46";
        due("without lines", x.may(0, 0), false);
        refused("no officer", NO_SUCH, () -> x.may(2, 0));
        refused("no deed", NO_SUCH, () -> x.may(0, 3));
        lets(x, "let;", true);
        lets(x, "let;bar;", false);
        lets(x, "bar;let;keep 5;", true);
        lets(x, "let;bar if 1=2;", true);
        lets(x, "keep 5;", false);
        lets(x, "let if rank=4;", true);
        lets(x, "let if rank>4;", false);
        lets(x, "let if rank<4;", false);
        lets(x, "let if land=1;", true);
        due("of another land", x.may(0, 2), false);
        due("another of that land", x.may(1, 2), true);
        lets(x, "let if solved=0 and doubted=0 and there=0 and links=0 and age=0;", true);
        x.go(7);
        x.solve(0, 0, 0);
        x.link(0, 0, 1);
        x.link(0, 0, 2);
        x.tell(0, 0, 2);
        x.tell(0, 1, 2);
        x.doubt(0, true);
        lets(x, "let if solved=1 and doubted=1 and there=2 and links=2 and age=7;", true);
        lets(x, "let if not solved=1 or age=7;", true);
        lets(x, "let if not [solved=1 or age=7];", false);
        lets(x, "let if 1=1 or 1=1 and 1=2;", true);
        lets(x, "let if not 1=2 and 1=2;", false);
        lets(x, "let if not not 1=1;", true);
        lets(x, "let if 10-3-2=5;", true);
        lets(x, "let if 1+2*3=7;", true);
        lets(x, "let if (1+2)*3=9;", true);
        lets(x, "let if 2-3<0;", true);
        lets(x, "let if 2*3*4+1>24;", true);
        lets(x, "let if 65536*65536*65536*32768<0;", true);
        lets(x, "let if 65536*65536*65536*65536=0;", true);
        lets(x, "let if 32768*32768*32768*32768*8<0;", true);
        lets(x, "let if 32768*32768*32768*32768*16=0;", true);

        promise = "47";
        text(x, "let if land=1;");
        due("ask", x.ask(0, 0, 0), 2);
        due("ask for what was not looked for", x.ask(1, 2, 1), 0);
        due("not let", x.ask(1, 0, 0), -1);
        due("no officer", x.ask(2, 0, 0), -1);
        due("officer -1", x.ask(-1, 0, 0), -1);
        due("no deed", x.ask(0, 3, 0), -1);
        due("deed -1", x.ask(0, -1, 0), -1);
        due("no mark", x.ask(0, 0, 2), -1);
        due("mark -1", x.ask(0, 0, -1), -1);
        x.forget(0);
        due("a forgotten deed", x.ask(0, 0, 0), -1);
    }

    private static void lets(OneHand x, String text, boolean is) {
        text(x, text);
        due("the fault of " + text, x.fault(0), 0);
        due(text, x.may(0, 0), is);
    }

    private static void keeps() {
        promise = "48";
        OneHand x = house(1, 0, 1);
        x.officer(0, 4);
        due("without lines", x.kept(0), -1);
        text(x, "keep 50;let;");
        due("keep", x.kept(0), 50);
        text(x, "keep 50;keep 60 if 1=1;keep 70 if 1=2;");
        due("the last whose test holds", x.kept(0), 60);
        text(x, "keep 70 if 1=2;");
        due("none", x.kept(0), -1);
        text(x, "keep 0;");
        due("cut to 1", x.kept(0), 1);
        text(x, "keep 2-9;");
        due("cut up to 1", x.kept(0), 1);
        text(x, "keep 99999+1;");
        due("cut to 99,999", x.kept(0), 99999);
        text(x, "keep 65536*65536*65536*32768;");
        due("64 bits go round", x.kept(0), 1);
        text(x, "keep 10+rank+land;");
        due("rank and land are 0", x.kept(0), 10);
        text(x, "keep 10+age*2;");
        x.go(5);
        due("by its age", x.kept(0), 20);
        refused("of none", NO_SUCH, () -> x.kept(1));
        refused("of -1", NO_SUCH, () -> x.kept(-1));
        text(x, "keep 6;");
        x.doubt(0, true);
        due("a doubted one is forgotten as well", x.go(1), 1);
    }

    // ---- promises 49 to 53

    private static void trays() {
        promise = "49";
        OneHand x = house(3, 0, 2);
        refused("tray 4", NO_SUCH, () -> x.tray(4, 9, 0));
        refused("tray -1", NO_SUCH, () -> x.tray(-1, 0, 0));
        refused("sort 4", ARGUMENT, () -> x.tray(0, 4, 0));
        refused("sort -1", ARGUMENT, () -> x.tray(0, -1, 0));
        refused("many 41", ARGUMENT, () -> x.tray(0, 0, 41));
        refused("many -1", ARGUMENT, () -> x.tray(0, 0, -1));
        x.tray(3, 3, 40);

        promise = "50";
        refused("write to tray 4", NO_SUCH, () -> x.write(4, 0, 0));
        refused("write to tray -1", NO_SUCH, () -> x.write(-1, 0, 0));
        refused("write to a missing one", STATE, () -> x.write(0, 99, 0));
        refused("write to place 40", INDEX, () -> x.write(3, 40, 0));
        refused("write to place -1", INDEX, () -> x.write(3, -1, 0));
        due("64 bits", x.write(3, 39, Long.MIN_VALUE + 5), Long.MIN_VALUE + 5);
        x.tray(0, 0, 1);
        due("8 bits", x.write(0, 0, 0x17f), 127);
        due("8 bits below 0", x.write(0, 0, 0x180), -128);
        x.tray(1, 1, 1);
        due("16 bits", x.write(1, 0, 0x17fff), 32767);
        due("16 bits below 0", x.write(1, 0, 0x18000), -32768);
        x.tray(2, 2, 1);
        due("32 bits", x.write(2, 0, 0x17fffffffL), Integer.MAX_VALUE);
        due("32 bits below 0", x.write(2, 0, 0x180000000L), Integer.MIN_VALUE);
        x.tray(0, 0, 0);
        refused("write to an empty one", INDEX, () -> x.write(0, 0, 0));
        takes();
        checks();
        numbers();
    }

    private static void takes() {
        promise = "51";
        OneHand x = house(3, 0, 2);
        x.officer(0, 0);
        refused("take of tray 4", NO_SUCH, () -> x.take(4, 0));
        refused("take of a missing tray, for none", NO_SUCH, () -> x.take(0, 2));
        refused("take of a missing tray", STATE, () -> x.take(0, 0));
        x.tray(0, 3, 3);
        x.write(0, 0, 3);
        x.write(0, 1, 1);
        x.tell(0, 2, 2);
        due("take", x.take(0, 0), 3);
        due("first", x.state(0, 0, false), 3);
        due("second", x.state(0, 1, false), 1);
        due("a 0 is told as well", x.state(0, 2, false), 0);
        x.link(0, 0, 1);
        x.write(0, 2, 1);
        due("take late", x.take(0, 0), 3);
        due("late", x.state(0, 2, true), 1);
        due("not early", x.state(0, 2, false), 0);
        x.write(0, 0, 2);
        x.write(0, 2, 4);
        refused("no state", ARGUMENT, () -> x.take(0, 0));
        due("nothing is told", x.state(0, 0, true), 3);
        x.write(0, 2, -1);
        refused("-1 is no state", ARGUMENT, () -> x.take(0, 0));
        x.write(0, 2, 1L << 32);
        refused("nor is a great one", ARGUMENT, () -> x.take(0, 0));
        x.tray(0, 0, 4);
        refused("more than marks", ARGUMENT, () -> x.take(0, 0));
        x.tray(0, 0, 0);
        due("an empty one", x.take(0, 0), 0);
    }

    private static void checks() {
        promise = "52";
        OneHand x = two();
        refused("check of tray 4", NO_SUCH, () -> x.check(1, false, 4));
        refused("check of no set", ARGUMENT, () -> x.check(1, false, 0));
        refused("check of ten", ARGUMENT, () -> house(0, 0, 10).check(1023, false, 0));
        due("missing", x.check(7, false, 0), -2);
        x.tray(0, 0, 3);
        due("the first differs", x.check(0b1101, false, 0), 0);
        x.write(0, 0, -112);
        x.write(0, 1, -112);
        due("the third differs", x.check(0b1101, false, 0), 2);
        x.write(0, 2, 96);
        due("all are right", x.check(0b1101, false, 0), -1);
        due("what is behind isn't asked", x.check(0b101, false, 0), -1);
        due("right so far", x.check(0b11101, false, 0), -6);
        x.write(0, 1, -111);
        due("by the lesser deed, then the other one", x.check(0b11101, false, 0), 1);
        x.tray(1, 1, 1);
        x.write(1, 0, -112);
        due("right so far", x.check(0b1101, false, 1), -4);
        x.tray(1, 1, 0);
        due("empty", x.check(0b1101, false, 1), -3);
        x.doubt(0, true);
        refused("a doubted one", ARGUMENT, () -> x.check(0b1101, false, 1));
    }

    private static void numbers() {
        promise = "53";
        OneHand x = two();
        x.officer(0, 0);
        x.link(0, 0, 1);
        x.link(0, 0, 2);
        x.keep(0, 0, 5);
        text(x, "let;bar;keep 9000;");
        x.feed(0, 0, 0, 0, 0);
        x.forget(5);
        x.doubt(4, true);
        long[] due = {100, 1, 2, 2, 1, 6, 4, 2, 1, 3, 20, 2, 4};
        for (int what = 0; what < due.length; what++) {
            due("number(" + what + ")", x.number(what), due[what]);
        }
        due("number(13)", x.number(13), -1);
        due("number(-1)", x.number(-1), -1);
    }
}
