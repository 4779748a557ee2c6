import java.util.ArrayList;
import java.util.HashMap;
import java.util.HashSet;
import java.util.List;
import java.util.Map;
import java.util.Set;

/** A TEXT, read by Earley's way over the document's rules, and worked by splitting it at its weakest sign. */
final class ModelRights {
    record Token(String is, int place) { }

    private record Item(int rule, int dot, int origin) { }

    private static final String[][] RULES = {
        {"TEXT", "LINE"}, {"TEXT", "TEXT", "LINE"},
        {"LINE", "SAYS", ";"}, {"LINE", "SAYS", "if", "TEST", ";"},
        {"SAYS", "let"}, {"SAYS", "bar"}, {"SAYS", "keep", "SUM"},
        {"TEST", "BOTH"}, {"TEST", "TEST", "or", "BOTH"},
        {"BOTH", "ONE"}, {"BOTH", "BOTH", "and", "ONE"},
        {"ONE", "not", "ONE"}, {"ONE", "[", "TEST", "]"}, {"ONE", "SUM", "SIGN", "SUM"},
        {"SIGN", "<"}, {"SIGN", ">"}, {"SIGN", "="},
        {"SUM", "ITEM"}, {"SUM", "SUM", "+", "ITEM"}, {"SUM", "SUM", "-", "ITEM"},
        {"ITEM", "ATOM"}, {"ITEM", "ITEM", "*", "ATOM"},
        {"ATOM", "number"}, {"ATOM", "name"}, {"ATOM", "(", "SUM", ")"},
    };

    private static final Set<String> NAMES = Set.of("rank", "land", "age", "solved", "doubted", "there", "links");

    final List<List<String>> lines = new ArrayList<>();
    int fault = 0;
    int faultPlace = -1;

    ModelRights(String text) {
        List<Token> tokens = tokens(text);
        read(tokens, text.length());
        if (fault == 0) {
            List<String> line = new ArrayList<>();
            for (Token t : tokens) {
                if (t.is.equals(";")) {
                    lines.add(line);
                    line = new ArrayList<>();
                } else {
                    line.add(t.is);
                }
            }
        }
    }

    /** A TOKEN that is none is told as "wrong", and ends the row. */
    private static List<Token> tokens(String text) {
        List<Token> found = new ArrayList<>();
        int at = 0;
        while (at < text.length()) {
            char c = text.charAt(at);
            String rest = text.substring(at);
            if (c == 10 || c == 32) {
                at++;
                continue;
            }
            String word = rest.replaceFirst("(?s)[^a-z].*", "");
            String digits = rest.replaceFirst("(?s)[^0-9].*", "");
            String is = !word.isEmpty() ? word : !digits.isEmpty() ? digits : "" + c;
            boolean wrong = digits.length() > 5
                    || word.isEmpty() && digits.isEmpty() && ";<>=+-*()[]".indexOf(c) < 0;
            found.add(new Token(wrong ? "wrong!" : is, at));
            if (wrong) {
                return found;
            }
            at += is.length();
        }
        return found;
    }

    private static String kind(String token) {
        return NAMES.contains(token) ? "name" : Character.isDigit(token.charAt(0)) ? "number" : token;
    }

    private void refuse(int kind, int place) {
        fault = kind;
        faultPlace = place;
    }

    private void read(List<Token> tokens, int length) {
        Map<Integer, List<Item>> sets = new HashMap<>();
        sets.put(0, new ArrayList<>(List.of(new Item(0, 0, 0), new Item(1, 0, 0))));
        List<String> open = new ArrayList<>();
        int ended = 0;
        for (int k = 0; k < tokens.size(); k++) {
            String is = tokens.get(k).is;
            int place = tokens.get(k).place;
            fill(sets, k);
            List<Item> next = new ArrayList<>();
            for (Item item : sets.get(k)) {
                if (kind(is).equals(due(item))) {
                    next.add(new Item(item.rule, item.dot + 1, item.origin));
                }
            }
            sets.put(k + 1, next);
            boolean opens = is.equals("not") || is.equals("(") || is.equals("[");
            closeBefore(is, open);
            if (is.equals("wrong!")) {
                refuse(1, place);
            } else if (next.isEmpty()) {
                refuse(2, place);
            } else if (ended == 12 && Set.of("let", "bar", "keep").contains(is)) {
                refuse(3, place);
            } else if (opens && open.size() >= 5) {
                refuse(4, place);
            }
            if (fault != 0) {
                return;
            }
            if (opens) {
                open.add(is);
            }
            ended += is.equals(";") ? 1 : 0;
        }
        fill(sets, tokens.size());
        boolean whole = tokens.isEmpty() || sets.get(tokens.size()).stream()
                .anyMatch(i -> i.origin == 0 && due(i) == null && RULES[i.rule][0].equals("TEXT"));
        if (!whole) {
            refuse(2, length);
        }
    }

    private static void closeBefore(String is, List<String> open) {
        if (Set.of("and", "or", ";", "]", "if").contains(is)) {
            while (!open.isEmpty() && open.get(open.size() - 1).equals("not")) {
                open.remove(open.size() - 1);
            }
        }
        if ((is.equals("]") || is.equals(")")) && !open.isEmpty()) {
            open.remove(open.size() - 1);
        }
    }

    private static String due(Item item) {
        String[] rule = RULES[item.rule];
        return item.dot + 1 < rule.length ? rule[item.dot + 1] : null;
    }

    private static void fill(Map<Integer, List<Item>> sets, int k) {
        List<Item> set = sets.get(k);
        Set<Item> known = new HashSet<>(set);
        for (int i = 0; i < set.size(); i++) {
            Item item = set.get(i);
            String due = due(item);
            List<Item> more = new ArrayList<>();
            if (due == null) {
                for (Item waiting : List.copyOf(sets.get(item.origin))) {
                    if (RULES[item.rule][0].equals(due(waiting))) {
                        more.add(new Item(waiting.rule, waiting.dot + 1, waiting.origin));
                    }
                }
            } else {
                for (int r = 0; r < RULES.length; r++) {
                    if (RULES[r][0].equals(due)) {
                        more.add(new Item(r, 0, k));
                    }
                }
            }
            for (Item one : more) {
                if (known.add(one)) {
                    set.add(one);
                }
            }
        }
    }

    // ---- what it says

    private static boolean holds(List<String> line, Map<String, Long> names) {
        int at = line.indexOf("if");
        return at < 0 || test(line.subList(at + 1, line.size()), names);
    }

    boolean lets(Map<String, Long> names) {
        boolean let = false;
        for (List<String> line : lines) {
            if (!line.get(0).equals("keep") && holds(line, names)) {
                let = line.get(0).equals("let");
            }
        }
        return let;
    }

    int keeps(Map<String, Long> names) {
        int keep = -1;
        for (List<String> line : lines) {
            if (line.get(0).equals("keep") && holds(line, names)) {
                int at = line.indexOf("if");
                long sum = sum(line.subList(1, at < 0 ? line.size() : at), names);
                keep = (int) (sum < 1 ? 1 : sum > 99999 ? 99999 : sum);
            }
        }
        return keep;
    }

    /** The last place outside all brackets that holds one of some signs; -1 without. */
    private static int last(List<String> row, Set<String> signs) {
        int depth = 0;
        int found = -1;
        for (int k = 0; k < row.size(); k++) {
            String is = row.get(k);
            depth += is.equals("(") || is.equals("[") ? 1 : is.equals(")") || is.equals("]") ? -1 : 0;
            found = depth == 0 && signs.contains(is) ? k : found;
        }
        return found;
    }

    private static List<String> head(List<String> row, int at) {
        return row.subList(0, at);
    }

    private static List<String> tail(List<String> row, int at) {
        return row.subList(at + 1, row.size());
    }

    private static boolean test(List<String> row, Map<String, Long> names) {
        int or = last(row, Set.of("or"));
        if (or >= 0) {
            return test(head(row, or), names) || test(tail(row, or), names);
        }
        int and = last(row, Set.of("and"));
        if (and >= 0) {
            return test(head(row, and), names) && test(tail(row, and), names);
        }
        if (row.get(0).equals("not")) {
            return !test(tail(row, 0), names);
        }
        if (row.get(0).equals("[")) {
            return test(row.subList(1, row.size() - 1), names);
        }
        int sign = last(row, Set.of("<", ">", "="));
        long a = sum(head(row, sign), names);
        long b = sum(tail(row, sign), names);
        return row.get(sign).equals("<") ? a < b : row.get(sign).equals(">") ? a > b : a == b;
    }

    private static long sum(List<String> row, Map<String, Long> names) {
        int sign = last(row, Set.of("+", "-"));
        if (sign >= 0) {
            long a = sum(head(row, sign), names);
            long b = sum(tail(row, sign), names);
            return row.get(sign).equals("+") ? a + b : a - b;
        }
        int times = last(row, Set.of("*"));
        if (times >= 0) {
            return sum(head(row, times), names) * sum(tail(row, times), names);
        }
        if (row.get(0).equals("(")) {
            return sum(row.subList(1, row.size() - 1), names);
        }
        String is = row.get(0);
        return NAMES.contains(is) ? names.get(is) : Long.parseLong(is);
    }
}
