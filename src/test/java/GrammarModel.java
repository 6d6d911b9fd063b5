import java.util.ArrayList;
import java.util.HashMap;
import java.util.HashSet;
import java.util.List;
import java.util.Map;
import java.util.Set;

/**
 * A second reading of "1. The language", made another way than the program's: the
 * grammar as rules, one set of them for each depth, and an Earley recognizer over
 * them, which tells by itself with which token nothing can be the beginning of a sofa.
 */
final class GrammarModel {
    private static final Set<String> KEYWORDS = new HashSet<>(List.of((
        "seats layers empire from to coin crumbs spring in year of dig prop free when day found slides props "
        + "first last height seen sure not and or min max").split(" ")));
    private static final Map<String, List<String[]>> RULES = new HashMap<>();

    /** A rule of which the first tokens were read, since the token at which it began. */
    private record Item(String left, String[] right, int dot, int origin) {
    }

    final List<String> texts = new ArrayList<>();
    final List<Integer> places = new ArrayList<>();
    private final List<String> kinds = new ArrayList<>();
    private final String tape;

    GrammarModel(String tape) {
        this.tape = tape;
        split();
    }

    static {
        rule("sofa", "lines");
        rule("sofa", "seats NUMBER layers NUMBER ; lines");
        rule("lines", "");
        rule("lines", "lines line ;");
        rule("line", "empire NAME from NUMBER to NUMBER");
        rule("line", "coin place year NUMBER");
        rule("line", "crumbs place of NAME");
        rule("line", "spring place");
        rule("line", "order");
        rule("line", "order when test0");
        rule("place", "in NUMBER , NUMBER");
        rule("order", "dig sum0");
        rule("order", "prop sum0");
        rule("order", "free sum0");
        for (int depth = 0; depth <= 8; depth++) {
            rulesOfDepth(depth);
        }
    }

    /** ? stands for a token that may begin what is deeper: at depth 8 it may not stand there itself. */
    private static void rulesOfDepth(int d) {
        rule("test" + d, "both" + d);
        rule("test" + d, "test" + d + " or both" + d);
        rule("both" + d, "single" + d);
        rule("both" + d, "both" + d + " and single" + d);
        rule("single" + d, deeper("not", d) + " single" + (d + 1));
        rule("single" + d, deeper("[", d) + " test" + (d + 1) + " ]");
        rule("single" + d, "seen NAME");
        rule("single" + d, "sure sum" + d);
        for (String comparison : "< > = <= >=".split(" ")) {
            rule("single" + d, "sum" + d + " " + comparison + " sum" + d);
        }
        rule("sum" + d, "product" + d);
        rule("sum" + d, "sum" + d + " + product" + d);
        rule("sum" + d, "sum" + d + " - product" + d);
        rule("product" + d, "value" + d);
        rule("product" + d, "product" + d + " * value" + d);
        rule("product" + d, "product" + d + " / value" + d);
        for (String plain : "NUMBER day found slides props".split(" ")) {
            rule("value" + d, plain);
        }
        rule("value" + d, "first of NAME");
        rule("value" + d, "last of NAME");
        rule("value" + d, "height " + deeper("(", d) + " sum" + (d + 1) + " )");
        rule("value" + d, deeper("-", d) + " value" + (d + 1));
        rule("value" + d, deeper("(", d) + " sum" + (d + 1) + " )");
        rule("value" + d, "min " + deeper("(", d) + " sum" + (d + 1) + " , sum" + (d + 1) + " )");
        rule("value" + d, "max " + deeper("(", d) + " sum" + (d + 1) + " , sum" + (d + 1) + " )");
    }

    private static String deeper(String token, int depth) {
        return depth == 8 ? "NOTHING" : token;
    }

    private static void rule(String left, String right) {
        RULES.computeIfAbsent(left, key -> new ArrayList<>()).add(right.isEmpty() ? new String[0] : right.split(" "));
    }

    private void split() {
        int at = 0;
        while (true) {
            while (at < tape.length() && (tape.charAt(at) == ' ' || tape.charAt(at) == '\n')) {
                at++;
            }
            if (at == tape.length()) {
                add("", "END", at);
                return;
            }
            int end = at + 1;
            String kind;
            char sign = tape.charAt(at);
            if ("abcdefghijklmnopqrstuvwxyz".indexOf(sign) >= 0) {
                end = endOf(at, "abcdefghijklmnopqrstuvwxyz0123456789");
                String word = tape.substring(at, end);
                kind = end - at > 10 ? "BAD" : KEYWORDS.contains(word) ? word : "NAME";
            } else if ("0123456789".indexOf(sign) >= 0) {
                end = endOf(at, "0123456789");
                kind = end - at > 6 ? "BAD" : "NUMBER";
            } else if (tape.startsWith("<=", at) || tape.startsWith(">=", at)) {
                end = at + 2;
                kind = tape.substring(at, end);
            } else {
                kind = "()[];,+-*/<>=".indexOf(sign) >= 0 ? String.valueOf(sign) : "BAD";
            }
            if (texts.size() == 400) {
                kind = "BAD";
            }
            add(tape.substring(at, end), kind, at);
            if (kind.equals("BAD")) {
                return;
            }
            at = end;
        }
    }

    private int endOf(int start, String signs) {
        int end = start;
        while (end < tape.length() && signs.indexOf(tape.charAt(end)) >= 0) {
            end++;
        }
        return end;
    }

    private void add(String text, String kind, int place) {
        texts.add(text);
        kinds.add(kind);
        places.add(place);
    }

    String kind(int token) {
        return kinds.get(token);
    }

    /** The number of the token with which the tokens are no beginning of a sofa; -1 if they are one. */
    int brokenToken() {
        List<Map<String, List<Item>>> waiting = new ArrayList<>();
        List<Item> items = new ArrayList<>();
        for (String[] right : RULES.get("sofa")) {
            items.add(new Item("sofa", right, 0, 0));
        }
        for (int token = 0; token < kinds.size(); token++) {
            Map<String, List<Item>> here = new HashMap<>();
            waiting.add(here);
            boolean whole = close(items, here, waiting, token);
            String kind = kinds.get(token);
            if (kind.equals("END")) {
                return whole ? -1 : token;
            }
            items = new ArrayList<>();
            for (Item item : here.getOrDefault(kind, List.of())) {
                items.add(new Item(item.left, item.right, item.dot + 1, item.origin));
            }
            if (items.isEmpty()) {
                return token;
            }
        }
        throw new AssertionError("tokens without an end");
    }

    /** Adds all that follows from these items; tells whether a whole sofa ends here. */
    private static boolean close(List<Item> start, Map<String, List<Item>> here,
            List<Map<String, List<Item>>> waiting, int token) {
        Set<String> seen = new HashSet<>();
        List<Item> work = new ArrayList<>();
        for (Item item : start) {
            enter(item, seen, work);
        }
        boolean whole = false;
        Set<String> empty = new HashSet<>();
        for (int i = 0; i < work.size(); i++) {
            Item item = work.get(i);
            if (item.dot == item.right.length) {
                whole |= item.left.equals("sofa") && item.origin == 0;
                if (item.origin == token) {
                    empty.add(item.left);
                }
                for (Item other : new ArrayList<>(waiting.get(item.origin).getOrDefault(item.left, List.of()))) {
                    enter(new Item(other.left, other.right, other.dot + 1, other.origin), seen, work);
                }
            } else {
                String wanted = item.right[item.dot];
                here.computeIfAbsent(wanted, key -> new ArrayList<>()).add(item);
                for (String[] right : RULES.getOrDefault(wanted, List.of())) {
                    enter(new Item(wanted, right, 0, token), seen, work);
                }
                if (empty.contains(wanted)) {
                    enter(new Item(item.left, item.right, item.dot + 1, item.origin), seen, work);
                }
            }
        }
        return whole;
    }

    private static void enter(Item item, Set<String> seen, List<Item> work) {
        if (seen.add(item.left + "|" + System.identityHashCode(item.right) + "|" + item.dot + "|" + item.origin)) {
            work.add(item);
        }
    }
}
