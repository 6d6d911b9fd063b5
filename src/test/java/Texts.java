/** Pieces of tapes that several tests put together. */
final class Texts {
    private Texts() {
    }

    /** Empires e0, e1 and so on. */
    static String empires(int many) {
        StringBuilder lines = new StringBuilder();
        for (int i = 0; i < many; i++) {
            lines.append("empire e").append(i).append(" from 1 to 2;");
        }
        return lines.toString();
    }

    /** Coins at the first places of a sofa of 4 seats, seat for seat in one stratum, the lowest first. */
    static String coins(int many) {
        StringBuilder lines = new StringBuilder();
        for (int i = 0; i < many; i++) {
            lines.append("coin in ").append(i % 4).append(',').append(i / 4).append(" year ").append(i).append(';');
        }
        return lines.toString();
    }

    /** An order of so many tokens, 3 or more. */
    static String orderOf(int tokens) {
        String start = tokens % 2 == 0 ? "dig -1" : "dig 1";
        int length = tokens % 2 == 0 ? 4 : 3;
        return start + "+1".repeat((tokens - length) / 2) + ";";
    }

    /** A value of the language that is this number: its own numbers have at most 6 digits, and none is below 0. */
    static String value(int number) {
        String sign = number < 0 ? "-" : "";
        int high = Math.abs(number / 100000);
        int low = Math.abs(number % 100000);
        return "(" + sign + high + "*100000+" + sign + low + ")";
    }
}
