/** The bounds of promises 43 to 48: the tape, TEXTS and their FAULTS, who is LET, KEEP. */
public final class RightsBoundsTest {
    private static final Ledger LEDGER = new Ledger();
    private static final Ledger.Story NEW = x -> { };
    private static final String TWELVE = "bar;bar;bar;bar;bar;bar;bar;bar;bar;bar;bar;bar;";

    public static void main(String[] args) {
        feeds();
        texts();
        again();
        bytes();
        words();
        numbers();
        places();
        lines();
        depths();
        joinedDepths();
        fullDepths();
        leasts();
        faults();
        let();
        sums();
        asked();
        kept();
        LEDGER.end();
    }

    private static Ledger.Story fed(int times) {
        return x -> {
            for (int k = 0; k < times; k++) {
                x.feed(0x6c65743b, 0x6b656570, 0x20393b20, 0x6261723b, k);
            }
        };
    }

    private static void feeds() {
        LEDGER.promise("43");
        LEDGER.due("twenty", NEW, x -> x.feed(0, -1, 5, Integer.MIN_VALUE, Integer.MAX_VALUE), 20);
        LEDGER.due("300", fed(14), x -> x.feed(0, 0, 0, 0, 0), 300);
        LEDGER.idle("more than 300", fed(15), x -> x.feed(1, 2, 3, 4, 5), -1);
        LEDGER.due("an empty tape again", fed(15).then(x -> x.text(0)), x -> x.feed(0, 0, 0, 0, 0), 20);
        LEDGER.due("behind those on the tape", fed(1).then(x -> Houses.feed(x, "let;")), x -> x.text(24) + x.fault(1), 5);
        LEDGER.due("the highest byte first", NEW.then(x -> x.feed(0x6c65743b, 0, 0, 0, 0)), x -> x.text(4), 1);
        LEDGER.due("the last of twenty", NEW.then(x -> x.feed(0x20202020, 0x20202020, 0x20202020, 0x20202020, 0x6c65743b)),
                x -> x.text(20), 1);
        LEDGER.due("bytes of 128 and more", NEW.then(x -> x.feed(0x6c6574bb, 0, 0, 0, 0)), x -> x.text(4) + 100 * x.fault(1),
                289);
        LEDGER.due("number(10)", fed(3), x -> x.number(10), 60);
    }

    private static void texts() {
        LEDGER.promise("44");
        LEDGER.due("all that it has", NEW.then(x -> Houses.feed(x, "let;bar;            ")), x -> x.text(20), 2);
        LEDGER.due("one less", NEW.then(x -> Houses.feed(x, "let;bar;        let;")), x -> x.text(19), -12);
        LEDGER.due("the end of 19", NEW.then(x -> Houses.feed(x, "let;bar;        let;")), x -> x.text(19) + x.fault(1), 7);
        for (int n : new int[] {-1, 21, Integer.MIN_VALUE, Integer.MAX_VALUE}) {
            LEDGER.refused(n + " of 20 bytes", fed(1), x -> x.text(n), Ledger.ARGUMENT);
        }
        LEDGER.refused("301 of 300 bytes", fed(15), x -> x.text(301), Ledger.ARGUMENT);
        LEDGER.refused("1 of none", NEW, x -> x.text(1), Ledger.ARGUMENT);
        LEDGER.due("300 of 300 bytes", fed(15), x -> x.text(300) > -15, true);
        LEDGER.due("none of 20", fed(1), x -> x.text(0), 0);
        LEDGER.due("the tape is empty then", fed(1).then(x -> x.text(4)), x -> x.number(10), 0);
        LEDGER.due("after a FAULT, too", fed(1).then(x -> x.text(3)), x -> x.number(10), 0);
        LEDGER.due("after no byte, too", fed(1).then(x -> x.text(0)), x -> x.number(10), 0);
        LEDGER.refused("a byte of the emptied tape", fed(1).then(x -> x.text(4)), x -> x.text(1), Ledger.ARGUMENT);
        Ledger.Story one = Houses.house(0, 0, 1).then(Houses.rights("keep 5;let;"));
        LEDGER.due("a TEXT with a FAULT is in place of none", one.then(Houses.rights("keep 6;let")),
                x -> 10 * x.kept(0) + x.number(9), 52);
        LEDGER.due("one without is", one.then(Houses.rights("keep 6;")), x -> 10 * x.kept(0) + x.number(9), 61);
        LEDGER.due("an empty one is", one.then(x -> x.text(0)), x -> 10 * x.kept(0) + x.number(9), -10);
        LEDGER.due("one of blanks is", one.then(Houses.rights(" \n ")), x -> 10 * x.kept(0) + x.number(9), -10);
        long300("300 bytes", "keep 1" + "+1".repeat(146) + " ;", 1);
        long300("300 bytes of SUMS", "let if 0<" + "1+".repeat(144) + "11;", 1);
        long300("300 bytes without an end", "let if 0<" + "1+".repeat(144) + "111", -12);
        long300("300 brackets", "[".repeat(300), -12);
        long300("300 blanks", " ".repeat(300), 0);
        long300("300 letters", "l".repeat(300), -12);
        long300("300 digits", "1".repeat(300), -11);
    }

    /** TEXTS one after another leave nothing of themselves behind. */
    private static void again() {
        LEDGER.promise("44");
        OneHand x = Ledger.made(Houses.house(0, 0, 1));
        for (int k = 0; k < 10; k++) {
            int add = k;
            LEDGER.due("300 bytes, time " + k, x, y -> Houses.text(y, "keep " + add + "+1".repeat(146) + ";"), 1);
            LEDGER.due("what they say", x, y -> y.kept(0), 146 + add);
            LEDGER.due("a FAULT at the end of them", x, y -> Houses.text(y, "keep 5" + "+1".repeat(146)), -12);
            LEDGER.due("its place", x, y -> y.fault(1), 298);
            LEDGER.due("what they said", x, y -> y.kept(0), 146 + add);
        }
        Ledger.Story not = HOUSE.then(Houses.rights("let if not 1=1;")).then(Houses.rights("let if 1=1;"));
        LEDGER.due("a TEST behind a longer one", not, y -> y.may(0, 0), true);
        Ledger.Story more = HOUSE.then(Houses.rights("keep 1+2+3 if 1=1;")).then(Houses.rights("keep 1+2 if 1=1;"));
        LEDGER.due("a SUM behind a longer one", more, y -> y.kept(0), 3);
        LEDGER.due("a short one", x, y -> Houses.text(y, "keep 3 if 1=2;keep 7;"), 2);
        LEDGER.due("what it says", x, y -> y.kept(0), 7);
    }

    private static void long300(String name, String text, int due) {
        LEDGER.due(name + " are " + text.length(), NEW, x -> Houses.text(x, text), due);
    }

    /** Each of 256 bytes by itself, and between two TOKENS. */
    private static void bytes() {
        LEDGER.promise("44");
        for (int k = 0; k < 256; k++) {
            char sign = (char) k;
            boolean blank = k == 10 || k == 32;
            boolean token = k >= 'a' && k <= 'z' || k >= '0' && k <= '9' || ";<>=+-*()[]".indexOf(k) >= 0;
            int alone = blank ? 0 : token ? -12 : -11;
            LEDGER.due("byte " + k, NEW, x -> Houses.text(x, "" + sign), alone);
            LEDGER.due("byte " + k + " behind let;bar", NEW, x -> Houses.text(x, "let;bar" + sign + "let;"),
                    k == ';' ? 3 : blank || token ? -12 : -11);
            LEDGER.due("byte " + k + " between let and ;", NEW, x -> Houses.text(x, "let" + sign + ";"),
                    blank ? 1 : token ? -12 : -11);
        }
    }

    /** Each word with one letter less, or with another one in the place of one, where the word may stand. */
    private static void spoiled() {
        String[] words = {"let", "bar", "keep", "if", "or", "and", "not", "rank", "land", "age", "solved", "doubted",
            "there", "links"};
        String[] ahead = {"", "", "", "let ", "let if 1=1 ", "let if 1=1 ", "let if ", "keep ", "keep ", "keep ", "keep ",
            "keep ", "keep ", "keep "};
        for (int word = 0; word < words.length; word++) {
            int place = ahead[word].length();
            for (int k = 0; k < words[word].length(); k++) {
                String head = words[word].substring(0, k);
                String tail = words[word].substring(k + 1);
                faulty(ahead[word] + head + "q" + tail + " ;", 2, place);
                faulty(ahead[word] + head + tail + " ;", 2, place);
                faulty(ahead[word] + head + words[word].charAt(k) + "q" + tail + " ;", 2, place);
            }
        }
    }

    private static void words() {
        LEDGER.promise("44");
        spoiled();
        for (String name : new String[] {"rank", "land", "age", "solved", "doubted", "there", "links"}) {
            faulty("keep " + name + "+1;", 0, -1);
            faulty("let if " + name + "=" + name + ";", 0, -1);
            faulty(name, 2, 0);
            faulty("let " + name, 2, 4);
            faulty("keep " + name.substring(1), 2, 5);
            faulty("keep " + name + "s;", 2, 5);
            faulty("keep " + name.substring(0, name.length() - 1) + ";", 2, 5);
            faulty("keep " + Character.toUpperCase(name.charAt(0)) + name.substring(1), 1, 5);
            faulty("keep " + name + name + ";", 2, 5);
            faulty("keep " + name + " " + name + ";", 2, 6 + name.length());
        }
        for (String word : new String[] {"let", "bar"}) {
            faulty(word + ";", 0, -1);
            faulty(word + word + ";", 2, 0);
            faulty(word + "5;", 2, 3);
            faulty(word + " if 1=1;", 0, -1);
        }
        for (String word : new String[] {"if", "and", "or", "not", "says", "a", "z", "letletletlet"}) {
            faulty(word + " 1=1;", 2, 0);
        }
        faulty("letif 1=1;", 2, 0);
        faulty("let if1=1;", 0, -1);
        faulty("let if 1=1and 1=1;", 0, -1);
        faulty("let if 1=1 and1=1or not1=1;", 0, -1);
        faulty("let if rank=1andland=1;", 2, 13);
        faulty("let if not[1=1];", 0, -1);
        faulty("keep5;", 0, -1);
        faulty("keep(5);", 0, -1);
        faulty("let\n\n;\n \nbar\n;", 0, -1);
    }

    private static void faulty(String text, int kind, int place) {
        LEDGER.due("\"" + text + "\"", NEW, x -> {
            Houses.text(x, text);
            return x.fault(0) + " at " + x.fault(1);
        }, kind + " at " + place);
    }

    private static void numbers() {
        LEDGER.promise("44");
        faulty("keep 0;", 0, -1);
        faulty("keep 00000;", 0, -1);
        faulty("keep 99999;", 0, -1);
        faulty("keep 000000;", 1, 5);
        faulty("keep 100000;", 1, 5);
        faulty("keep 1234567890123;", 1, 5);
        faulty("keep 5+123456;", 1, 7);
        faulty("123456", 1, 0);
        faulty("12345", 2, 0);
        faulty("keep 12345 6;", 2, 11);
        faulty("keep 12345a;", 2, 10);
        faulty("keep 1,5;", 1, 6);
        faulty("keep -5;", 2, 5);
        faulty("let 123456;", 1, 4);
        faulty("keep a123456;", 2, 5);
    }

    /** The end's place is the length of the TEXT, its blanks too. */
    private static void places() {
        LEDGER.promise("44 and 45");
        faulty("let", 2, 3);
        faulty("let ", 2, 4);
        faulty("let \n\n", 2, 6);
        faulty("let;bar", 2, 7);
        faulty("let if", 2, 6);
        faulty("let if not", 2, 10);
        faulty("let if [", 2, 8);
        faulty("let if 1", 2, 8);
        faulty("let if 1=", 2, 9);
        faulty("let if 1=1", 2, 10);
        faulty("let if 1=1 and", 2, 14);
        faulty("let if (1", 2, 9);
        faulty("keep", 2, 4);
        faulty("keep 1+", 2, 7);
        faulty("keep 1*", 2, 7);
        faulty("keep (1", 2, 7);
        faulty("  let x", 2, 6);
        faulty("\n!", 1, 1);
        faulty(";", 2, 0);
        faulty("let;;", 2, 4);
        faulty("let if;", 2, 6);
        faulty("let if ();", 2, 8);
        faulty("let if [];", 2, 8);
        faulty("let if [1=1;", 2, 11);
        faulty("let if (1;", 2, 9);
        faulty("let if (1=1);", 2, 9);
        faulty("let if [1];", 2, 9);
        faulty("let if 1=1=1;", 2, 10);
        faulty("let if 1<>1;", 2, 9);
        faulty("let if 1;", 2, 8);
        faulty("let if 1=1 if 1=1;", 2, 11);
        faulty("let if 1=1];", 2, 10);
        faulty("let if 1=1);", 2, 10);
        faulty("let if 1=(1=1);", 2, 11);
        faulty("let if [1=1]=1;", 2, 12);
        faulty("let if [1=1] not 1=1;", 2, 13);
        faulty("keep if 1=1;", 2, 5);
        faulty("keep 1 or 1;", 2, 7);
        faulty("keep [1];", 2, 5);
        faulty("keep not 1;", 2, 5);
        faulty("keep 1=1;", 2, 6);
        faulty("keep 1++1;", 2, 7);
        faulty("keep 1)", 2, 6);
        faulty("keep ()", 2, 6);
        faulty("let 1;", 2, 4);
        faulty("let let;", 2, 4);
        faulty("or;", 2, 0);
    }

    private static void lines() {
        LEDGER.promise("44");
        LEDGER.due("twelve LINES", NEW, x -> Houses.text(x, TWELVE), 12);
        LEDGER.due("eleven LINES", NEW, x -> Houses.text(x, TWELVE.substring(4)), 11);
        faulty(TWELVE + " \n", 0, -1);
        for (String says : new String[] {"let", "bar", "keep", "let;", "bar if 1=1;", "keep 5;", "let let", "keep 123456"}) {
            faulty(TWELVE + says, 3, 48);
            faulty(TWELVE + " " + says, 3, 49);
        }
        for (String other : new String[] {"if", "12345", ";", "lets", "(", "[", "not", "rank"}) {
            faulty(TWELVE + other, 2, 48);
        }
        for (String none : new String[] {"!", "123456", "L", "\t"}) {
            faulty(TWELVE + none, 1, 48);
        }
        faulty(TWELVE.substring(0, 47), 2, 47);
        faulty("let if [[[[[[1=1]]]]]];" + TWELVE, 4, 12);
        LEDGER.due("the last of twelve LINES", Houses.house(0, 0, 1).then(x -> {
            x.officer(0, 0);
            Houses.text(x, TWELVE.substring(4) + "let;");
        }), x -> x.may(0, 0), true);
        LEDGER.due("a 13th LINE leaves the LINES ahead", NEW.then(Houses.rights("let;")).then(Houses.rights(TWELVE + "let;")),
                x -> x.number(9), 1);
        String[] great = {"keep 9 if 1=1;", "let if 1=1 or 1=1;"};
        LEDGER.due("twelve great LINES", NEW, x -> Houses.text(x, great[0].repeat(6) + great[1].repeat(6)), 12);
    }

    private static void depths() {
        LEDGER.promise("44");
        String[] opens = {"not ", "[", "("};
        String[] closes = {"", "]", ")"};
        for (int k = 0; k < 3 * 3 * 3 * 3 * 3; k++) {
            StringBuilder open = new StringBuilder();
            StringBuilder close = new StringBuilder();
            boolean sum = false;
            boolean stands = true;
            for (int rest = k, i = 0; i < 5; rest /= 3, i++) {
                int next = rest % 3;
                stands &= !sum || next == 2;
                sum |= next == 2;
                open.append(opens[next]);
                close.insert(0, closes[next]);
            }
            if (stands) {
                around(open.toString(), close.toString(), sum);
            }
        }
        ends();
    }

    /** Five around; a sixth of each sort is one too many, but only if it may stand there, and the five haven't ended. */
    private static void around(String open, String close, boolean sum) {
        int bracket = close.indexOf(']') < 0 ? close.length() : close.indexOf(']');
        String inner = sum ? "1" + close.substring(0, bracket) + "=1" + close.substring(bracket) : "1=1" + close;
        faulty("let if " + open + inner + ";", 0, -1);
        int at = 7 + open.length();
        faulty("let if " + open + "(1)=1;", 4, at);
        faulty("let if " + open + "[1=1];", sum ? 2 : 4, at);
        faulty("let if " + open + "not 1=1;", sum ? 2 : 4, at);
        faulty("let if " + open + "1+(1", 4, at + 2);
        if (!sum) {
            faulty("let if " + open + "1=(1", 4, at + 2);
            boolean inside = open.endsWith("[");
            faulty("let if " + open + "1=1 and [", inside ? 4 : 2, inside ? at + 8 : at + 9);
        }
    }

    private static void ends() {
        faulty("keep (((((1)))));", 0, -1);
        faulty("keep ((((((1))))));", 4, 10);
        faulty("keep (((((1))))+(1)*((((1)))));", 0, -1);
        faulty("keep (((((1))))+(1)*(((((1))))));", 4, 24);
        faulty("let if not not not not not 1=1 and not not not not not 1=1;", 0, -1);
        faulty("let if not not not not not 1=1 or [[[[[1=1]]]]];", 0, -1);
        faulty("let if not 1=1 and [[[[[1=1]]]]];", 0, -1);
        faulty("let if not [1=1] and [[[[[1=1]]]]];", 0, -1);
        faulty("let if not [1=1 and [[[[1=1]]]]];", 4, 23);
        faulty("let if not [1=1 and [[[1=1]]]] and [[[[[1=1]]]]];", 0, -1);
        faulty("let if (((((1)))))=(((((1)))));", 0, -1);
        faulty("let if not (((((1)))))=1;", 4, 15);
        faulty("let if not ((((1))))=(((((1)))));", 4, 25);
        faulty("let if not not 1=1 or not not not not not 1=1;", 0, -1);
        faulty("let if [not not not not 1=1 and not not not not 1=1];", 0, -1);
        faulty("let if [not not not not 1=1 and not not not not not 1=1];", 4, 48);
        faulty("keep (((((1))))) if [[[[[1=1]]]]];keep (((((1)))));", 0, -1);
        faulty("keep ((((([", 2, 10);
        faulty("keep (((((not", 2, 10);
        faulty("keep (((((", 2, 10);
        faulty("let if [[[[[!", 1, 12);
        faulty("let if [[[[[[", 4, 12);
        faulty("let if [[[[[)", 2, 12);
    }

    /** Five around are as many behind any number of joined ones as at first; a sixth is one too many. */
    private static void joinedDepths() {
        String[] tests = {"[[[[[1=1]]]]]", "not not not not not 1=1", "[not [not [1=1]]]", "(((((1)))))=1",
            "1=(((((1)))))", "not [[[[1=1]]]]", "not not [1=((1))]"};
        String[] joins = {" or ", " and "};
        for (String test : tests) {
            StringBuilder row = new StringBuilder("let if " + test);
            for (int k = 0; k < 4; k++) {
                for (String join : joins) {
                    faulty(row + join + test + ";", 0, -1);
                    faulty(row + join + "[[[[[[1=1]]]]]];", 4, row.length() + join.length() + 5);
                    faulty(row + join + "not not not not not not 1=1;", 4, row.length() + join.length() + 20);
                    faulty(row + join + "((((((1))))))=1;", 4, row.length() + join.length() + 5);
                    faulty(row + join + "[1=1" + join + "[[[[[1=1]]]]]];", 4, row.length() + 2 * join.length() + 8);
                }
                row.append(joins[k % 2]).append("1=1");
            }
        }
        StringBuilder sum = new StringBuilder("keep 1");
        for (int k = 0; k < 8; k++) {
            for (String join : new String[] {"+", "-", "*"}) {
                faulty(sum + join + "(((((1)))));", 0, -1);
                faulty(sum + join + "((((((1))))));", 4, sum.length() + 6);
                faulty(sum + join + "(2" + join + "(((((1))))));", 4, sum.length() + 8);
            }
            sum.append("+-*".charAt(k % 3)).append("(7)");
        }
    }

    /** Within five others a TOKEN that can't stand there is told as that, whatever it is. */
    private static void fullDepths() {
        String[] none = {"let", "bar", "keep", "if", "or", "and", "lets", "]", ")", ";", "<", ">", "=", "+", "-", "*"};
        String[] may = {"1", "12345", "rank", "links"};
        for (String open : new String[] {"[[[[[", "not not not not not ", "[not [not [", "not [[not ["}) {
            int place = 7 + open.length();
            for (String token : none) {
                faulty("let if " + open + token, 2, place);
            }
            for (String token : may) {
                faulty("let if " + open + token, 2, place + token.length());
                faulty("let if " + open + token + "=" + token + " let", 2, place + 2 + 2 * token.length());
            }
            for (String token : new String[] {"[", "(", "not"}) {
                faulty("let if " + open + token, 4, place);
            }
        }
        for (String token : none) {
            faulty("keep (((((" + token, 2, 10);
            faulty("let if 1=(((((" + token, 2, 14);
        }
        for (String token : new String[] {"[", "not"}) {
            faulty("keep (((((" + token, 2, 10);
            faulty("let if 1=(((((" + token, 2, 14);
        }
        faulty("keep ((((((", 4, 10);
        faulty("let if 1=((((((", 4, 14);
    }

    /** The first along the text; of one TOKEN the least kind. */
    private static void leasts() {
        LEDGER.promise("44");
        faulty("let let !", 2, 4);
        faulty("let ! let", 1, 4);
        faulty("! let let", 1, 0);
        faulty("let if [[[[[[1=1]]]]]] !", 4, 12);
        faulty("let if [[[[[! [", 1, 12);
        faulty("let if ! [[[[[[", 1, 7);
        faulty(TWELVE + "let !", 3, 48);
        faulty(TWELVE + "let let", 3, 48);
        faulty(TWELVE.substring(4) + "let !" + "let;", 1, 48);
        faulty(TWELVE.substring(4) + "let let;let;", 2, 48);
        faulty("keep (((((123456", 1, 10);
        faulty("keep (((((lets", 2, 10);
    }

    private static void faults() {
        LEDGER.promise("45");
        LEDGER.due("the FAULT at first", NEW, x -> x.fault(0), 0);
        LEDGER.due("its place at first", NEW, x -> x.fault(1), -1);
        String[] texts = {"let !", "let let", TWELVE + "let;", "keep ((((((1", "let;"};
        int[] places = {4, 4, 48, 10, -1};
        for (int k = 0; k < texts.length; k++) {
            Ledger.Story story = Houses.rights(texts[k]);
            int kind = k == 4 ? 0 : k + 1;
            LEDGER.due("the FAULT", story, x -> x.fault(0), kind);
            LEDGER.due("its place", story, x -> x.fault(1), places[k]);
            LEDGER.due("the answer to it", NEW, answers(texts[k]), kind == 0 ? 1 : -10 - kind);
            for (int what : new int[] {-1, 2, 3, Integer.MIN_VALUE, Integer.MAX_VALUE}) {
                LEDGER.due("what " + what, story, x -> x.fault(what), -1);
            }
            LEDGER.due("without one again", story.then(Houses.rights("bar;")), x -> 10 * x.fault(0) + x.fault(1), -1);
            LEDGER.due("of the latest that threw nothing", story.then(x -> Ledger.answer(x, y -> y.text(1))),
                    x -> 100 * x.fault(0) + x.fault(1), 100 * kind + places[k]);
            LEDGER.due("of the latest one", story.then(Houses.rights("bar;  !")), x -> 100 * x.fault(0) + x.fault(1), 106);
        }
    }

    private static Ledger.Call answers(String text) {
        return x -> Houses.text(x, text);
    }

    /** OFFICER 0 of LAND 2, RANK 4; DEED 0 in that LAND, 1 in another one; NOW is 100. */
    private static final Ledger.Story HOUSE = x -> {
        x.place(0, 0, 2);
        x.place(0, 0, 3);
        x.hand(OneHand.NONE);
        x.mark();
        x.mark();
        x.officer(2, 4);
        x.officer(3, 0);
        x.deed(0, 0, 0);
        x.go(100);
        x.deed(1, 0, 0);
        x.solve(0, 0, 0);
        x.doubt(0, true);
        x.tell(0, 0, 2);
        x.link(0, 0, 1);
        x.link(1, 0, 1);
        x.link(1, 1, 0);
        x.tell(0, 1, 2);
    };

    private static void let() {
        LEDGER.promise("46");
        LEDGER.due("without LINES", HOUSE, x -> x.may(0, 0), false);
        lets("let;", true);
        lets("bar;", false);
        lets("keep 1000;", false);
        lets("let;keep 1000;", true);
        lets("let;bar;", false);
        lets("bar;let;", true);
        lets("bar;let if 1=2;", false);
        lets("let;bar if 1=2;", true);
        lets("let if 1=2;", false);
        lets("", false);
        names();
        LEDGER.refused("no such OFFICER", HOUSE, x -> x.may(2, 0), Ledger.NO_SUCH);
        LEDGER.refused("OFFICER -1", HOUSE, x -> x.may(-1, 0), Ledger.NO_SUCH);
        LEDGER.refused("no such DEED", HOUSE, x -> x.may(0, 2), Ledger.NO_SUCH);
        LEDGER.refused("DEED -1", HOUSE, x -> x.may(0, -1), Ledger.NO_SUCH);
    }

    private static void lets(String text, boolean due) {
        LEDGER.due("\"" + text + "\"", HOUSE.then(Houses.rights(text)), x -> x.may(0, 0), due);
        LEDGER.due("no FAULT in \"" + text + "\"", HOUSE.then(Houses.rights(text)), x -> x.fault(0), 0);
    }

    private static void is(String sum, int due) {
        lets("let if " + sum + "=" + due + ";", true);
        lets("let if " + sum + "<" + (due + 1) + ";", true);
        lets("let if " + sum + "<" + due + ";", false);
        lets("let if " + sum + ">" + due + ";", false);
        lets("let if " + sum + "+1>" + due + ";", true);
        lets("let if " + sum + "=" + (due + 1) + ";", false);
    }

    private static void names() {
        is("rank", 4);
        is("land", 1);
        is("age", 100);
        is("solved", 1);
        is("doubted", 1);
        is("there", 2);
        is("links", 3);
        Ledger.Story other = HOUSE.then(Houses.rights("let if land=0 and solved=0 and doubted=0 and there=0 and age=0;"));
        LEDGER.due("of the other DEED", other, x -> x.may(0, 1), true);
        LEDGER.due("rank 0 of the other OFFICER", HOUSE.then(Houses.rights("let if rank=0 and land=0;")),
                x -> x.may(1, 0), true);
    }

    private static void sums() {
        LEDGER.promise("46");
        is("2+3*4", 14);
        is("(2+3)*4", 20);
        is("20-5-3", 12);
        is("20-(5-3)", 18);
        is("2*3*4", 24);
        is("20-2*3", 14);
        lets("let if 0-1<0;", true);
        lets("let if not 1=1 or 1=1;", true);
        lets("let if not [1=1 or 1=1];", false);
        lets("let if 1=2 and 1=2 or 1=1;", true);
        lets("let if 1=1 or 1=2 and 1=2;", true);
        lets("let if [1=1 or 1=2] and 1=2;", false);
        lets("let if not 1=2 and 1=1;", true);
        lets("let if not not 1=1;", true);
        lets("let if 1<2 and 1=1;", true);
        lets("let if 1=1 and 2>1;", true);
        lets("let if 1<2 and 2>1 or 1=2;", true);
        lets("let if not 1<2;", false);
        lets("let if not 2>1;", false);
        lets("let if not 2<1;", true);
        lets("let if not 1>2;", true);
        lets("let if [1<2] and [2>1];", true);
        lets("let if not not not 1=1;", false);
        truths();
        String two62 = "32768*32768*32768*32768*4";
        lets("let if " + two62 + ">0;", true);
        lets("let if " + two62 + "*2<0;", true);
        lets("let if " + two62 + "+" + two62 + "<0;", true);
        lets("let if " + two62 + "-1+" + two62 + ">0;", true);
        lets("let if " + two62 + "*2-1>0;", true);
        lets("let if 0-" + two62 + "-" + two62 + "<0;", true);
        lets("let if 0-" + two62 + "-" + two62 + "-1>0;", true);
        lets("let if " + two62 + "*4=0;", true);
        lets("let if " + two62 + "*4+5=5;", true);
        lets("let if 65536*65536*65536*65536=0;", true);
        lets("let if 99999*99999*99999*99999<0;", 99999L * 99999 * 99999 * 99999 < 0);
    }

    /** Three of 0 and 1 with all that joins them. */
    private static void truths() {
        for (int k = 0; k < 8; k++) {
            boolean a = (k & 1) != 0;
            boolean b = (k & 2) != 0;
            boolean c = (k & 4) != 0;
            String[] is = {a ? "1=1" : "1=2", b ? "2>1" : "1>2", c ? "1<2" : "2<1"};
            lets("let if " + is[0] + " and " + is[1] + ";", a && b);
            lets("let if " + is[0] + " or " + is[1] + ";", a || b);
            lets("let if " + is[0] + " and not " + is[1] + ";", a && !b);
            lets("let if " + is[0] + " or not " + is[1] + ";", a || !b);
            lets("let if not " + is[0] + " and " + is[1] + ";", !a && b);
            lets("let if not " + is[0] + " or " + is[1] + ";", !a || b);
            lets("let if " + is[0] + " or " + is[1] + " and " + is[2] + ";", a || b && c);
            lets("let if " + is[0] + " and " + is[1] + " or " + is[2] + ";", a && b || c);
            lets("let if " + is[0] + " and [" + is[1] + " or " + is[2] + "];", a && (b || c));
            lets("let if [" + is[0] + " or " + is[1] + "] and " + is[2] + ";", (a || b) && c);
            lets("let if " + is[0] + " or not [" + is[1] + " and not " + is[2] + "];", a || !(b && !c));
            lets("let if not [not " + is[0] + " and " + is[1] + "] and not " + is[2] + ";", !(!a && b) && !c);
            lets("let if " + is[0] + " and " + is[1] + " and " + is[2] + ";", a && b && c);
            lets("let if " + is[0] + " or " + is[1] + " or " + is[2] + ";", a || b || c);
        }
    }

    private static void asked() {
        LEDGER.promise("47");
        Ledger.Story own = HOUSE.then(Houses.rights("let if land=1;"));
        LEDGER.due("LATE ones, too", own, x -> x.ask(0, 0, 1), 2);
        LEDGER.due("not looked for", own, x -> x.ask(1, 1, 0), 0);
        LEDGER.due("not LET", own, x -> x.ask(1, 0, 0), -1);
        LEDGER.due("without LINES", HOUSE, x -> x.ask(0, 0, 0), -1);
        for (int k : new int[] {-1, 2, Integer.MIN_VALUE, Integer.MAX_VALUE}) {
            LEDGER.idle("OFFICER " + k, own, x -> x.ask(k, 0, 0), -1);
            LEDGER.idle("DEED " + k, own, x -> x.ask(0, k, 0), -1);
            LEDGER.idle("MARK " + k, own, x -> x.ask(0, 0, k), -1);
        }
        Ledger.Story all = HOUSE.then(Houses.rights("let;"));
        LEDGER.due("everybody is LET", all, x -> x.ask(1, 1, 1), 0);
        Ledger.Story many = HOUSE.then(Houses.rights("let;")).then(x -> {
            x.officer(0, 0);
            x.mark();
            x.tell(0, 0, 3);
            x.tell(0, 1, 2);
            x.tell(0, 2, 1);
        });
        for (int k = 0; k < 9; k++) {
            int officer = k / 3;
            int mark = k % 3;
            LEDGER.due("MARK " + mark + " for OFFICER " + officer, many, x -> x.ask(officer, 0, mark), 3 - mark);
        }
        LEDGER.due("no OFFICER behind one", Houses.house(1, 0, 1).then(x -> x.officer(0, 0)).then(Houses.rights("let;")),
                x -> 10 * x.ask(0, 0, 0) + x.ask(1, 0, 0), -1);
        for (int k : new int[] {-1, 2, 9, 10, 15, 16, 60, 64, Integer.MIN_VALUE, Integer.MAX_VALUE}) {
            LEDGER.due("OFFICER " + k + " when everybody is LET", all, x -> x.ask(k, 0, 0), -1);
            LEDGER.due("DEED " + k + " when everybody is LET", all, x -> x.ask(0, k, 0), -1);
            LEDGER.due("MARK " + k + " when everybody is LET", all, x -> x.ask(0, 0, k), -1);
        }
        LEDGER.due("a FORGOTTEN DEED when everybody is LET", all.then(x -> x.forget(0)), x -> x.ask(0, 0, 0), -1);
        LEDGER.due("a FORGOTTEN DEED", own.then(x -> x.forget(0)), x -> x.ask(0, 0, 0), -1);
        LEDGER.due("a MARK could not be seen", own.then(x -> x.tell(0, 0, 3)), x -> x.ask(0, 0, 0), 3);
    }

    private static void keeps(String text, int due) {
        LEDGER.due("\"" + text + "\"", HOUSE.then(Houses.rights(text)), x -> x.kept(0), due);
    }

    private static void kept() {
        LEDGER.promise("48");
        LEDGER.due("without LINES", HOUSE, x -> x.kept(0), -1);
        keeps("let;bar;", -1);
        keeps("keep 0;", 1);
        keeps("keep 1;", 1);
        keeps("keep 2;", 2);
        keeps("keep 0-1;", 1);
        keeps("keep 99998;", 99998);
        keeps("keep 99999;", 99999);
        keeps("keep 99999+1;", 99999);
        keeps("keep 99999*99999;", 99999);
        keeps("keep 32768*32768*32768*32768*4;", 99999);
        keeps("keep 32768*32768*32768*32768*8;", 1);
        keeps("keep 32768*32768*32768*32768*8-1;", 99999);
        keeps("keep 65536*65536*65536*65536+7;", 7);
        keeps("keep 65536*65536+7;", 99999);
        keeps("keep 7+rank*5+land*5;", 7);
        keeps("keep age+solved+doubted+there+links;", 107);
        for (int k = 0; k < 256; k++) {
            int states = k;
            int there = 0;
            for (int mark = 0; mark < 4; mark++) {
                there += (states >> 2 * mark & 3) == 2 ? 1 : 0;
            }
            LEDGER.due("MARKS that are there, of STATES " + k, Houses.house(16, 0, 2).then(x -> {
                for (int mark = 0; mark < 4; mark++) {
                    x.tell(1, 5 * mark, states >> 2 * mark & 3);
                    x.tell(0, 5 * mark, 2);
                }
                Houses.text(x, "keep 1+there;");
            }), x -> x.kept(1), 1 + there);
        }
        LEDGER.due("all sixteen MARKS", Houses.house(16, 0, 1).then(x -> {
            for (int mark = 0; mark < 16; mark++) {
                x.tell(0, mark, 2);
            }
            Houses.text(x, "keep there*100;");
        }), x -> x.kept(0), 1600);
        keeps("keep 5;keep 6;let;", 6);
        keeps("keep 5;keep 6 if 1=2;", 5);
        keeps("keep 5 if 1=2;keep 6 if 2=1;", -1);
        keeps("keep 5 if rank=0 and land=0;", 5);
        keeps("keep 5;bar;", 5);
        LEDGER.refused("no such DEED", HOUSE, x -> x.kept(2), Ledger.NO_SUCH);
        LEDGER.refused("DEED -1", HOUSE, x -> x.kept(-1), Ledger.NO_SUCH);
        LEDGER.promise("2 and 48");
        LEDGER.due("KEEP above its age", HOUSE.then(Houses.rights("keep 102;")), x -> x.go(1), 0);
        LEDGER.due("KEEP as its age", HOUSE.then(Houses.rights("keep 101;")), x -> x.go(1), 1);
        LEDGER.due("KEEP below its age", HOUSE.then(Houses.rights("keep 50;")), x -> x.go(1), 1);
        LEDGER.due("nobody is FORGOTTEN by a TEXT", HOUSE.then(Houses.rights("keep 1;")), x -> x.number(6), 1);
        LEDGER.due("all are by the next HOUR", HOUSE.then(Houses.rights("keep 1;")), x -> x.go(1), 2);
        LEDGER.due("by number: LINKS of the lesser are gone for the greater",
                HOUSE.then(Houses.rights("keep 1 if links=0 or solved=1;")), x -> x.go(1), 2);
        LEDGER.due("LINKS of the greater are there for the lesser",
                HOUSE.then(Houses.rights("keep 1 if links=0 or solved=0;")), x -> x.go(1), 1);
        LEDGER.due("at once by all HOURS", HOUSE.then(Houses.rights("keep 150 if age=101;")), x -> x.go(60), 0);
    }
}
