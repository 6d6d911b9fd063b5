import java.util.ArrayList;
import java.util.HashMap;
import java.util.HashSet;
import java.util.List;
import java.util.Map;
import java.util.Set;

/**
 * A second build of the document, made another way than the program's (lists of
 * cushions, orders reckoned from their tokens each time), to compare answers with.
 */
final class Model {
    static final class Cushion {
        final int stratum;
        int find = -1;
        boolean spring;
        boolean loose;

        Cushion(int stratum) {
            this.stratum = stratum;
        }

        Cushion copy() {
            Cushion copy = new Cushion(stratum);
            copy.find = find;
            copy.spring = spring;
            copy.loose = loose;
            return copy;
        }
    }

    record Empire(String name, int from, int to) {
    }

    record Find(boolean coin, int stratum, int year, int empire) {
    }

    record Order(String kind, List<String> sum, List<String> test) {
    }

    int strata = 6;
    List<List<Cushion>> stacks = new ArrayList<>();
    List<Empire> empires = new ArrayList<>();
    List<Find> finds = new ArrayList<>();
    List<Order> orders = new ArrayList<>();
    Set<Integer> propped = new HashSet<>();
    Map<Integer, Boolean> sureOf = new HashMap<>();
    int days;
    int carriedOut;
    int dug;
    int slides;

    int error;
    int errorPlace = -1;

    Model() {
        build(4, 6);
    }

    private void build(int seats, int layers) {
        strata = layers;
        for (int seat = 0; seat < seats; seat++) {
            List<Cushion> stack = new ArrayList<>();
            for (int stratum = 0; stratum < layers; stratum++) {
                stack.add(new Cushion(stratum));
            }
            stacks.add(stack);
        }
    }

    Model copy() {
        Model copy = new Model();
        copy.strata = strata;
        copy.stacks = new ArrayList<>();
        for (List<Cushion> stack : stacks) {
            List<Cushion> other = new ArrayList<>();
            for (Cushion cushion : stack) {
                other.add(cushion.copy());
            }
            copy.stacks.add(other);
        }
        copy.empires = empires;
        copy.finds = finds;
        copy.orders = orders;
        copy.propped = new HashSet<>(propped);
        copy.sureOf = new HashMap<>(sureOf);
        copy.days = days;
        copy.carriedOut = carriedOut;
        copy.dug = dug;
        copy.slides = slides;
        return copy;
    }

    // ---- reading

    /** The sofa of a tape; one with an error tells only the error and its place. */
    static Model read(String tape) {
        Model model = new Model();
        GrammarModel grammar = new GrammarModel(tape);
        int broken = grammar.brokenToken();
        if (broken >= 0) {
            model.error = 1;
            model.errorPlace = grammar.places.get(broken);
        } else {
            model.walk(grammar);
        }
        return model;
    }

    private void fault(int number, int place) {
        if (error == 0) {
            error = number;
            errorPlace = place;
        }
    }

    private void walk(GrammarModel grammar) {
        List<String> t = grammar.texts;
        List<Integer> p = grammar.places;
        int at = 0;
        if (grammar.kind(0).equals("seats")) {
            int seats = Integer.parseInt(t.get(1));
            int layers = Integer.parseInt(t.get(3));
            if (seats < 2 || seats > 8) {
                fault(5, p.get(1));
            } else if (layers < 2 || layers > 10) {
                fault(5, p.get(3));
            } else {
                stacks.clear();
                build(seats, layers);
            }
            at = 5;
        }
        while (error == 0 && !grammar.kind(at).equals("END")) {
            int end = at;
            while (!grammar.kind(end).equals(";")) {
                end++;
            }
            line(grammar, at, end);
            at = end + 1;
        }
    }

    private void line(GrammarModel grammar, int at, int end) {
        List<String> t = grammar.texts;
        List<Integer> p = grammar.places;
        switch (t.get(at)) {
            case "empire" -> {
                String name = t.get(at + 1);
                int from = Integer.parseInt(t.get(at + 3));
                int to = Integer.parseInt(t.get(at + 5));
                if (empireOf(name) >= 0) {
                    fault(2, p.get(at + 1));
                }
                if (empires.size() == 6) {
                    fault(4, p.get(at + 1));
                }
                if (from > 999) {
                    fault(5, p.get(at + 3));
                }
                if (to > 999 || to < from) {
                    fault(5, p.get(at + 5));
                }
                empires.add(new Empire(name, from, to));
            }
            case "coin", "crumbs" -> {
                boolean coin = t.get(at).equals("coin");
                if (finds.size() == 24) {
                    fault(4, p.get(at));
                }
                Cushion cushion = place(grammar, at);
                if (cushion != null && cushion.find >= 0) {
                    fault(2, p.get(at + 4));
                }
                int year = coin ? Integer.parseInt(t.get(at + 6)) : -1;
                int empire = coin ? -1 : empireOf(t.get(at + 6));
                if (year > 999) {
                    fault(5, p.get(at + 6));
                }
                if (!coin && empire < 0) {
                    fault(3, p.get(at + 6));
                }
                if (error == 0) {
                    cushion.find = finds.size();
                    finds.add(new Find(coin, cushion.stratum, year, empire));
                }
            }
            case "spring" -> {
                Cushion cushion = place(grammar, at);
                if (cushion != null && cushion.spring) {
                    fault(2, p.get(at + 4));
                }
                if (error == 0) {
                    cushion.spring = true;
                }
            }
            default -> order(grammar, at, end);
        }
    }

    private Cushion place(GrammarModel grammar, int at) {
        int seat = Integer.parseInt(grammar.texts.get(at + 2));
        int stratum = Integer.parseInt(grammar.texts.get(at + 4));
        if (seat >= stacks.size()) {
            fault(5, grammar.places.get(at + 2));
        } else if (stratum >= strata) {
            fault(5, grammar.places.get(at + 4));
        } else {
            return stacks.get(seat).get(stratum);
        }
        return null;
    }

    private void order(GrammarModel grammar, int at, int end) {
        List<String> t = grammar.texts;
        if (orders.size() == 16) {
            fault(4, grammar.places.get(at));
        }
        for (int i = at; i < end; i++) {
            if (grammar.kind(i).equals("NAME") && empireOf(t.get(i)) < 0) {
                fault(3, grammar.places.get(i));
            }
        }
        int when = t.subList(at, end).indexOf("when");
        int sumEnd = when < 0 ? end : at + when;
        List<String> test = when < 0 ? List.of() : List.copyOf(t.subList(sumEnd + 1, end));
        orders.add(new Order(t.get(at), List.copyOf(t.subList(at + 1, sumEnd)), test));
    }

    private int empireOf(String name) {
        for (int i = 0; i < empires.size(); i++) {
            if (empires.get(i).name.equals(name)) {
                return i;
            }
        }
        return -1;
    }

    // ---- what can be seen

    int height(int seat) {
        return stacks.get(seat).size();
    }

    Cushion top(int seat) {
        List<Cushion> stack = stacks.get(seat);
        return stack.isEmpty() ? null : stack.get(stack.size() - 1);
    }

    int findsLeft(int seat) {
        return (int) stacks.get(seat).stream().filter(cushion -> cushion.find >= 0).count();
    }

    boolean isSure(int find) {
        return sureOf.getOrDefault(find, false);
    }

    int sureFinds() {
        return (int) sureOf.values().stream().filter(sure -> sure).count();
    }

    int buriedUnder(int find) {
        for (List<Cushion> stack : stacks) {
            for (int i = 0; i < stack.size(); i++) {
                if (stack.get(i).find == find) {
                    return stack.size() - i - 1;
                }
            }
        }
        throw new AssertionError("not in a stack");
    }

    int notBefore(int stratum) {
        int latest = -1;
        for (int find = 0; find < finds.size(); find++) {
            Find f = finds.get(find);
            if (isSure(find) && f.stratum <= stratum) {
                latest = Math.max(latest, f.coin ? f.year : empires.get(f.empire).from);
            }
        }
        return latest;
    }

    Set<Integer> seenIn(int stratum) {
        Set<Integer> seen = new HashSet<>();
        for (int find = 0; find < finds.size(); find++) {
            Find f = finds.get(find);
            if (isSure(find) && !f.coin && f.stratum == stratum) {
                seen.add(f.empire);
            }
        }
        return seen;
    }

    boolean isMixed(int stratum) {
        for (int a : seenIn(stratum)) {
            for (int b : seenIn(stratum)) {
                if (empires.get(a).to < empires.get(b).from) {
                    return true;
                }
            }
        }
        return false;
    }

    double meanYear() {
        double years = 0;
        int coins = 0;
        for (int find = 0; find < finds.size(); find++) {
            if (finds.get(find).coin && isSure(find)) {
                years += finds.get(find).year;
                coins++;
            }
        }
        return coins == 0 ? 0 : years / coins;
    }

    // ---- what is done

    int dig(int seat) {
        List<Cushion> stack = stacks.get(seat);
        Cushion cushion = stack.remove(stack.size() - 1);
        dug++;
        if (cushion.find >= 0) {
            sureOf.put(cushion.find, !cushion.loose);
        }
        slide();
        return cushion.find;
    }

    void prop(int seat) {
        propped.add(seat);
    }

    int free(int seat) {
        int before = slides;
        propped.remove(seat);
        slide();
        return slides - before;
    }

    private void slide() {
        boolean slid = true;
        while (slid) {
            slid = false;
            for (int low = 0; low < stacks.size() && !slid; low++) {
                for (int high = low - 1; high <= low + 1 && !slid; high += 2) {
                    if (high >= 0 && high < stacks.size() && height(high) > height(low) + 3
                            && !propped.contains(high) && !top(high).spring) {
                        Cushion cushion = stacks.get(high).remove(height(high) - 1);
                        cushion.loose = true;
                        stacks.get(low).add(cushion);
                        slides++;
                        slid = true;
                    }
                }
            }
        }
    }

    int bestDig() {
        int best = -1;
        for (int seat = stacks.size() - 1; seat >= 0; seat--) {
            if (height(seat) > 0 && (best < 0 || wouldSlide(seat) < wouldSlide(best)
                    || wouldSlide(seat) == wouldSlide(best) && findsLeft(seat) >= findsLeft(best))) {
                best = seat;
            }
        }
        return best;
    }

    int wouldSlide(int seat) {
        Model copy = copy();
        copy.dig(seat);
        return copy.slides - slides;
    }

    int passDays(int count) {
        int before = sureOf.size();
        for (int day = 0; day < count; day++) {
            for (Order order : orders) {
                if (order.test.isEmpty() || new Reckoning(order.test).test()) {
                    carryOut(order.kind, seatOf(new Reckoning(order.sum).sum()));
                }
            }
            days++;
        }
        return sureOf.size() - before;
    }

    private int seatOf(int sum) {
        int rest = sum % stacks.size();
        return rest < 0 ? rest + stacks.size() : rest;
    }

    private void carryOut(String kind, int seat) {
        if (kind.equals("dig") && height(seat) > 0) {
            dig(seat);
            carriedOut++;
        }
        if (kind.equals("prop") && !propped.contains(seat) && propped.size() < 3) {
            prop(seat);
            carriedOut++;
        }
        if (kind.equals("free") && propped.contains(seat)) {
            free(seat);
            carriedOut++;
        }
    }

    int foundAfter(int count) {
        Model copy = copy();
        copy.passDays(count);
        return copy.sureOf.size();
    }

    int daysUntilFound(int find) {
        Model copy = copy();
        for (int day = 0; day <= 30; day++) {
            if (copy.sureOf.containsKey(find)) {
                return day;
            }
            copy.passDays(1);
        }
        return -1;
    }

    long digest() {
        List<Long> numbers = new ArrayList<>();
        for (int x : new int[] {stacks.size(), strata, finds.size(), days, carriedOut, dug, slides, sureOf.size(),
            sureFinds(), bestDig()}) {
            numbers.add((long) x);
        }
        for (int seat = 0; seat < stacks.size(); seat++) {
            numbers.add((long) height(seat));
            numbers.add(propped.contains(seat) ? 1L : 0L);
            numbers.add((long) findsLeft(seat));
            numbers.add(top(seat) == null ? -1L : (long) top(seat).stratum);
        }
        for (int find = 0; find < finds.size(); find++) {
            numbers.add(sureOf.containsKey(find) ? 1L : 0L);
            numbers.add(isSure(find) ? 1L : 0L);
        }
        for (int stratum = 0; stratum < strata; stratum++) {
            numbers.add((long) notBefore(stratum));
            numbers.add(isMixed(stratum) ? 1L : 0L);
        }
        long d = 1021;
        for (long x : numbers) {
            d = d * 31 + x;
        }
        return d;
    }

    /** Reckons tokens as they stand. */
    private final class Reckoning {
        private final List<String> tokens;
        private int at;

        Reckoning(List<String> tokens) {
            this.tokens = tokens;
        }

        private String peek() {
            return at < tokens.size() ? tokens.get(at) : "";
        }

        private boolean take(String token) {
            if (peek().equals(token)) {
                at++;
                return true;
            }
            return false;
        }

        boolean test() {
            boolean holds = both();
            while (take("or")) {
                holds |= both();
            }
            return holds;
        }

        private boolean both() {
            boolean holds = single();
            while (take("and")) {
                holds &= single();
            }
            return holds;
        }

        private boolean single() {
            if (take("not")) {
                return !single();
            }
            if (take("[")) {
                boolean holds = test();
                take("]");
                return holds;
            }
            if (take("seen")) {
                int empire = empireOf(tokens.get(at++));
                for (int stratum = 0; stratum < strata; stratum++) {
                    if (seenIn(stratum).contains(empire)) {
                        return true;
                    }
                }
                return false;
            }
            if (take("sure")) {
                return isSure(sum());
            }
            int left = sum();
            String sign = tokens.get(at++);
            int right = sum();
            return switch (sign) {
                case "<" -> left < right;
                case ">" -> left > right;
                case "=" -> left == right;
                case "<=" -> left <= right;
                default -> left >= right;
            };
        }

        int sum() {
            int sum = product();
            while (true) {
                if (take("+")) {
                    sum += product();
                } else if (take("-")) {
                    sum -= product();
                } else {
                    return sum;
                }
            }
        }

        private int product() {
            int product = value();
            while (true) {
                if (take("*")) {
                    product *= value();
                } else if (take("/")) {
                    int by = value();
                    product = by == 0 ? 0 : product / by;
                } else {
                    return product;
                }
            }
        }

        private int value() {
            String token = tokens.get(at++);
            switch (token) {
                case "day":
                    return days;
                case "found":
                    return sureOf.size();
                case "slides":
                    return slides;
                case "props":
                    return propped.size();
                case "first":
                case "last":
                    take("of");
                    Empire empire = empires.get(empireOf(tokens.get(at++)));
                    return token.equals("first") ? empire.from : empire.to;
                case "height":
                    return height(seatOf(value()));
                case "-":
                    return -value();
                case "(":
                    int inner = sum();
                    take(")");
                    return inner;
                case "min":
                case "max":
                    take("(");
                    int left = sum();
                    take(",");
                    int right = sum();
                    take(")");
                    return token.equals("min") ? Math.min(left, right) : Math.max(left, right);
                default:
                    return Integer.parseInt(token);
            }
        }
    }
}
