import java.util.ArrayList;
import java.util.List;

/** Writes sofas: most of them right ones, some with one or two things spoilt. */
final class TapeMaker {
    private static final String[] SPOILERS = {
        ";", ",", "(", ")", "[", "]", "+", "-", "*", "/", "<", "<=", "=", ">=", ">", "#", "A", "\t", "1234567", "abcdefghijk",
        "seats", "layers", "empire", "from", "to", "coin", "crumbs", "spring", "in", "year", "of", "dig", "prop", "free",
        "when", "day", "found", "slides", "props", "first", "last", "height", "seen", "sure", "not", "and", "or", "min",
        "max", "e0", "nobody", "0", "1", "9", "1000", "123456", "\u00e9", "\u0000", "inn", "o", "an",
    };

    private final Dice dice;
    private final List<String> tokens = new ArrayList<>();
    private final boolean wild;
    private int seats = 4;
    private int layers = 6;
    private int empires;

    private TapeMaker(Dice dice, boolean wild) {
        this.dice = dice;
        this.wild = wild;
    }

    /** A tape of at most 2000 bytes; a wild one most often has an error. */
    static String make(Dice dice, boolean wild) {
        while (true) {
            TapeMaker maker = new TapeMaker(dice, wild);
            maker.sofa();
            String tape = maker.join();
            if (tape.length() <= 2000 && (wild || maker.tokens.size() <= 400)) {
                return tape;
            }
        }
    }

    private void put(String text) {
        for (String token : text.split(" ")) {
            tokens.add(token);
        }
    }

    private void number(int least, int most) {
        int number = wild && dice.oneIn(60) ? dice.from(most, most + 3) : dice.from(least, most);
        tokens.add(dice.oneIn(15) ? "0" + number : String.valueOf(number));
    }

    private void sofa() {
        if (!dice.oneIn(6)) {
            seats = dice.oneIn(3) ? dice.from(2, 3) : dice.from(2, 8);
            layers = dice.oneIn(3) ? dice.from(2, 10) : dice.from(6, 10);
            put("seats " + (wild && dice.oneIn(40) ? dice.from(0, 12) : seats));
            put("layers " + (wild && dice.oneIn(40) ? dice.from(0, 12) : layers) + " ;");
        }
        int lines = dice.oneIn(4) ? dice.below(60) : dice.below(34);
        int[] used = new int[layers * seats];
        int finds = 0;
        int orders = 0;
        for (int line = 0; line < lines; line++) {
            int what = dice.below(10);
            if (what < 2 && (empires < 6 || wild && dice.oneIn(3))) {
                empire();
            } else if (what < 5 && (finds < 24 || wild)) {
                finds += find(used) ? 1 : 0;
            } else if (what == 5) {
                spring(used);
            } else if (orders < 16 || wild) {
                order();
                orders++;
            }
        }
        int spoilt = wild ? dice.below(3) : 0;
        for (int i = 0; i < spoilt && !tokens.isEmpty(); i++) {
            spoil();
        }
    }

    private void empire() {
        int from = dice.below(950);
        String name = wild && dice.oneIn(30) ? "e0" : "e" + empires;
        put("empire " + name + " from " + from + " to " + dice.from(wild && dice.oneIn(30) ? from - 5 : from, from + 50) + " ;");
        empires++;
        if (tokens.get(tokens.size() - 2).startsWith("-")) {
            tokens.set(tokens.size() - 2, "0");
        }
    }

    private boolean place(int[] used, int bit) {
        int cushion = dice.below(used.length);
        if ((used[cushion] & bit) != 0 && !(wild && dice.oneIn(20))) {
            return false;
        }
        used[cushion] |= bit;
        put("in " + cushion / layers + " , " + cushion % layers);
        return true;
    }

    private boolean find(int[] used) {
        boolean coin = empires == 0 || dice.oneIn(2);
        tokens.add(coin ? "coin" : "crumbs");
        if (!place(used, 1)) {
            tokens.remove(tokens.size() - 1);
            return false;
        }
        tokens.add(coin ? "year" : "of");
        if (coin) {
            number(0, 999);
        } else {
            name();
        }
        tokens.add(";");
        return true;
    }

    private void spring(int[] used) {
        tokens.add("spring");
        if (place(used, 2)) {
            tokens.add(";");
        } else {
            tokens.remove(tokens.size() - 1);
        }
    }

    private void name() {
        tokens.add(wild && dice.oneIn(40) ? "nobody" : "e" + dice.below(empires));
    }

    private void order() {
        tokens.add(dice.of("dig", "dig", "dig", "prop", "free"));
        sum(dice.below(4), 0);
        if (!dice.oneIn(3)) {
            tokens.add("when");
            test(dice.below(3), 0);
        }
        tokens.add(";");
    }

    private int deepest() {
        return wild ? 9 : 8;
    }

    private void test(int size, int depth) {
        single(size, depth);
        for (int i = 0; i < size && dice.oneIn(3); i++) {
            tokens.add(dice.of("and", "or"));
            single(size - 1, depth);
        }
    }

    private void single(int size, int depth) {
        int what = dice.below(9);
        if (what == 0 && depth < deepest()) {
            tokens.add("not");
            single(size, depth + 1);
        } else if (what <= 2 && size > 0 && depth < deepest()) {
            tokens.add("[");
            test(size - 1, depth + 1);
            tokens.add("]");
        } else if (what == 3 && empires > 0) {
            tokens.add("seen");
            name();
        } else if (what == 4) {
            tokens.add("sure");
            sum(size, depth);
        } else {
            sum(size, depth);
            tokens.add(dice.of("<", ">", "=", "<=", ">="));
            sum(size, depth);
        }
    }

    private void sum(int size, int depth) {
        value(size, depth);
        for (int i = 0; i < size && dice.oneIn(2); i++) {
            tokens.add(dice.of("+", "-", "*", "/"));
            value(size - 1, depth);
        }
    }

    private void value(int size, int depth) {
        int what = dice.below(size > 0 ? 13 : 7);
        boolean deeper = depth < deepest();
        if (what >= 9 && deeper) {
            enclosed(what, size - 1, depth + 1);
        } else if (what == 8 && deeper) {
            tokens.add("-");
            value(size - (dice.oneIn(2) ? 1 : 0), depth + 1);
        } else if (what == 7 && empires > 0) {
            put(dice.of("first", "last") + " of");
            name();
        } else if (what >= 3) {
            tokens.add(dice.of("day", "day", "found", "slides", "props"));
        } else {
            number(0, dice.oneIn(5) ? 99999 : 12);
        }
    }

    private void enclosed(int what, int size, int depth) {
        if (what >= 11) {
            put((what == 11 ? "height " : "") + "(");
            sum(size, depth);
        } else {
            put(dice.of("min", "max") + " (");
            sum(size, depth);
            tokens.add(",");
            sum(size, depth);
        }
        tokens.add(")");
    }

    private void spoil() {
        int at = dice.below(tokens.size());
        int how = dice.below(4);
        if (how == 0) {
            tokens.remove(at);
        } else if (how == 1) {
            tokens.add(at, dice.of(SPOILERS));
        } else if (how == 2) {
            tokens.set(at, dice.of(SPOILERS));
        } else {
            tokens.subList(at, tokens.size()).clear();
        }
    }

    /** With blanks where they have to stand, and some more. */
    private String join() {
        StringBuilder tape = new StringBuilder(blanks(5));
        for (int i = 0; i < tokens.size(); i++) {
            String token = tokens.get(i);
            if (i > 0 && touches(tokens.get(i - 1), token)) {
                tape.append(dice.of(" ", " ", "\n"));
            }
            tape.append(blanks(9)).append(token);
        }
        return tape.append(blanks(3)).toString();
    }

    private String blanks(int rarely) {
        return dice.oneIn(rarely) ? dice.of(" ", "  ", "\n", " \n ") : "";
    }

    private boolean touches(String left, String right) {
        // Now and then a spoilt tape lets two tokens run together.
        if (wild && dice.oneIn(400)) {
            return false;
        }
        char last = left.charAt(left.length() - 1);
        char first = right.charAt(0);
        boolean inWord = isLetter(left.charAt(0)) && (isLetter(first) || isDigit(first));
        return inWord || isDigit(last) && isDigit(first) || (last == '<' || last == '>') && first == '=';
    }

    private static boolean isLetter(char sign) {
        return sign >= 'a' && sign <= 'z';
    }

    private static boolean isDigit(char sign) {
        return sign >= '0' && sign <= '9';
    }
}
