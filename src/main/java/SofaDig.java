import java.util.Arrays;

/** An excavation of a sofa: ../shared/DOC.md says what each member does. */
public final class SofaDig {
    private static final int NONE = -1;
    private static final int MOST_BYTES = 2000;
    private static final int BYTES_A_FEED = 20;
    private static final int MOST_TOKENS = 400;
    private static final int MOST_DEPTH = 8;
    private static final int LEAST_SIZE = 2;
    private static final int MOST_SEATS = 8;
    private static final int MOST_STRATA = 10;
    private static final int MOST_CUSHIONS = 80;
    private static final int PLAIN_SEATS = 4;
    private static final int PLAIN_STRATA = 6;
    private static final int LAST_YEAR = 999;
    private static final int MOST_EMPIRES = 6;
    private static final int MOST_FINDS = 24;
    private static final int MOST_ORDERS = 16;
    private static final int MOST_PROPS = 3;
    private static final int MOST_DAYS = 30;
    private static final int HIGHEST_STEP = 3;
    /* Of one settling. None comes near it: each slide makes the sum of the squared heights smaller. */
    private static final int MOST_LOOKS = 1000000;

    private final Tape tape;
    private final Reader reader;
    private final Planner planner;
    private final Sofa sofa;
    /* Used again for each question about what would be. */
    private final Sofa trial;
    private Told told;
    private int errorPlace;

    public SofaDig() {
        Tape emptyTape = new Tape();
        Told plainSofa = new Told();
        tape = emptyTape;
        reader = new Reader(emptyTape);
        planner = new Planner();
        sofa = new Sofa(plainSofa);
        trial = new Sofa(plainSofa);
        told = plainSofa;
        errorPlace = NONE;
    }

    // ---- the language

    public int feed(int a, int b, int c, int d, int e) throws IllegalStateException {
        if (tape.length + BYTES_A_FEED > MOST_BYTES) {
            throw new IllegalStateException("the tape is full");
        }
        tape.append(a);
        tape.append(b);
        tape.append(c);
        tape.append(d);
        tape.append(e);
        return tape.length;
    }

    public int trim(int n) throws IllegalArgumentException {
        if (n < 0 || n > tape.length) {
            throw new IllegalArgumentException("not a length of the tape's beginning");
        }
        tape.length = n;
        return n;
    }

    public int teach() {
        int error = reader.read();
        errorPlace = reader.errorPlace();
        tape.length = 0;
        if (error == 0) {
            told = reader.exchange(told);
            sofa.begin(told);
        }
        return error;
    }

    public int errorAt() {
        return errorPlace;
    }

    // ---- the sofa

    public int seats() {
        return told.seats;
    }

    public int strata() {
        return told.strata;
    }

    public int finds() {
        return told.finds;
    }

    public int days() {
        return sofa.days;
    }

    public int ordersCarriedOut() {
        return sofa.carriedOut;
    }

    public int cushionsDug() {
        return sofa.dug;
    }

    public int slides() {
        return sofa.slid;
    }

    public int found() {
        return sofa.foundCount;
    }

    public int sureFinds() {
        return sofa.sureCount;
    }

    public int props() {
        return sofa.propCount;
    }

    // ---- seats

    public int heightOf(int seat) throws IndexOutOfBoundsException {
        needSeat(seat);
        return sofa.heightAt(seat);
    }

    public boolean isPropped(int seat) throws IndexOutOfBoundsException {
        needSeat(seat);
        return sofa.hasProp(seat);
    }

    public int topStratum(int seat) throws IndexOutOfBoundsException, IllegalStateException {
        needCushion(seat);
        return told.stratumOfCushion(sofa.topOf(seat));
    }

    public boolean isTopLoose(int seat) throws IndexOutOfBoundsException, IllegalStateException {
        needCushion(seat);
        return sofa.isLoose(sofa.topOf(seat));
    }

    public boolean hasTopSpring(int seat) throws IndexOutOfBoundsException, IllegalStateException {
        needCushion(seat);
        return told.hasSpring(sofa.topOf(seat));
    }

    public int findsLeft(int seat) throws IndexOutOfBoundsException {
        needSeat(seat);
        return sofa.findsInStack(seat);
    }

    // ---- finds

    public boolean isCoin(int find) throws IndexOutOfBoundsException {
        needFind(find);
        return told.tellsCoin(find);
    }

    public boolean isFound(int find) throws IndexOutOfBoundsException {
        needFind(find);
        return sofa.wasFound(find);
    }

    public boolean isSure(int find) throws IndexOutOfBoundsException, IllegalStateException {
        needFind(find);
        if (!sofa.wasFound(find)) {
            throw new IllegalStateException("not found yet");
        }
        return sofa.wasSure(find);
    }

    public int stratumOf(int find) throws IndexOutOfBoundsException {
        needFind(find);
        return told.stratumOfFind(find);
    }

    public int yearOf(int find) throws IndexOutOfBoundsException, IllegalStateException {
        needFind(find);
        if (!told.tellsCoin(find)) {
            throw new IllegalStateException("crumbs have no year");
        }
        return told.coinYear(find);
    }

    public int empireOf(int find) throws IndexOutOfBoundsException, IllegalStateException {
        needFind(find);
        if (told.tellsCoin(find)) {
            throw new IllegalStateException("a coin has no empire");
        }
        return told.crumbsEmpire(find);
    }

    public int buriedUnder(int find) throws IndexOutOfBoundsException, IllegalStateException {
        needFind(find);
        if (sofa.wasFound(find)) {
            throw new IllegalStateException("found already");
        }
        return sofa.cushionsAbove(told.cushionOf(find));
    }

    // ---- strata

    public int notBefore(int stratum) throws IndexOutOfBoundsException {
        needStratum(stratum);
        return sofa.earliestYear(stratum);
    }

    public boolean isSeenIn(int stratum, int empire) throws IndexOutOfBoundsException {
        needStratum(stratum);
        if (empire < 0 || empire >= told.empires) {
            throw new IndexOutOfBoundsException("no such empire");
        }
        return sofa.sawEmpire(stratum, empire);
    }

    public boolean isMixed(int stratum) throws IndexOutOfBoundsException {
        needStratum(stratum);
        return sofa.showsMixture(stratum);
    }

    // ---- by hand

    public int dig(int seat) throws IndexOutOfBoundsException, IllegalStateException {
        needCushion(seat);
        return sofa.digSeat(seat);
    }

    public int prop(int seat) throws IndexOutOfBoundsException, IllegalStateException {
        needSeat(seat);
        if (!sofa.canProp(seat)) {
            throw new IllegalStateException("no prop can be put here");
        }
        sofa.putProp(seat);
        return sofa.propCount;
    }

    public int takeProp(int seat) throws IndexOutOfBoundsException, IllegalStateException {
        needSeat(seat);
        if (!sofa.hasProp(seat)) {
            throw new IllegalStateException("no prop here");
        }
        int before = sofa.slid;
        sofa.freeSeat(seat);
        return sofa.slid - before;
    }

    // ---- days and what would be

    public int passDays(int days) throws IllegalArgumentException {
        needDays(days);
        int before = sofa.foundCount;
        planner.liveDays(sofa, days);
        return sofa.foundCount - before;
    }

    public int foundAfter(int days) throws IllegalArgumentException {
        needDays(days);
        trial.copyFrom(sofa);
        planner.liveDays(trial, days);
        return trial.foundCount;
    }

    public int daysUntilFound(int find) throws IndexOutOfBoundsException {
        needFind(find);
        trial.copyFrom(sofa);
        for (int day = 0; day < MOST_DAYS; day++) {
            if (trial.wasFound(find)) {
                return day;
            }
            planner.liveDays(trial, 1);
        }
        return trial.wasFound(find) ? MOST_DAYS : NONE;
    }

    public int wouldSlide(int seat) throws IndexOutOfBoundsException, IllegalStateException {
        needCushion(seat);
        return slidesOfDig(seat);
    }

    public int bestDig() {
        int best = NONE;
        int fewest = 0;
        int mostFinds = 0;
        for (int seat = 0; seat < told.seats; seat++) {
            if (sofa.heightAt(seat) > 0) {
                int sliding = slidesOfDig(seat);
                int finds = sofa.findsInStack(seat);
                if (best == NONE || sliding < fewest || (sliding == fewest && finds > mostFinds)) {
                    best = seat;
                    fewest = sliding;
                    mostFinds = finds;
                }
            }
        }
        return best;
    }

    public double meanYear() {
        int coins = 0;
        int years = 0;
        for (int find = 0; find < told.finds; find++) {
            if (told.tellsCoin(find) && sofa.wasSure(find)) {
                coins++;
                years += told.coinYear(find);
            }
        }
        return coins == 0 ? 0.0 : (double) years / (double) coins;
    }

    public long digest() {
        long d = 1021;
        d = d * 31 + told.seats;
        d = d * 31 + told.strata;
        d = d * 31 + told.finds;
        d = d * 31 + sofa.days;
        d = d * 31 + sofa.carriedOut;
        d = d * 31 + sofa.dug;
        d = d * 31 + sofa.slid;
        d = d * 31 + sofa.foundCount;
        d = d * 31 + sofa.sureCount;
        d = d * 31 + bestDig();
        d = digestSeats(d);
        d = digestFinds(d);
        return digestStrata(d);
    }

    private long digestSeats(long start) {
        long d = start;
        for (int seat = 0; seat < told.seats; seat++) {
            d = d * 31 + sofa.heightAt(seat);
            d = d * 31 + (sofa.hasProp(seat) ? 1 : 0);
            d = d * 31 + sofa.findsInStack(seat);
            d = d * 31 + told.stratumOfCushion(sofa.topOf(seat));
        }
        return d;
    }

    private long digestFinds(long start) {
        long d = start;
        for (int find = 0; find < told.finds; find++) {
            d = d * 31 + (sofa.wasFound(find) ? 1 : 0);
            d = d * 31 + (sofa.wasSure(find) ? 1 : 0);
        }
        return d;
    }

    private long digestStrata(long start) {
        long d = start;
        for (int stratum = 0; stratum < told.strata; stratum++) {
            d = d * 31 + sofa.earliestYear(stratum);
            d = d * 31 + (sofa.showsMixture(stratum) ? 1 : 0);
        }
        return d;
    }

    private int slidesOfDig(int seat) {
        trial.copyFrom(sofa);
        trial.digSeat(seat);
        return trial.slid - sofa.slid;
    }

    private void needSeat(int seat) {
        if (seat < 0 || seat >= told.seats) {
            throw new IndexOutOfBoundsException("no such seat");
        }
    }

    private void needCushion(int seat) {
        needSeat(seat);
        if (sofa.heightAt(seat) == 0) {
            throw new IllegalStateException("no cushion here");
        }
    }

    private void needFind(int find) {
        if (find < 0 || find >= told.finds) {
            throw new IndexOutOfBoundsException("no such find");
        }
    }

    private void needStratum(int stratum) {
        if (stratum < 0 || stratum >= told.strata) {
            throw new IndexOutOfBoundsException("no such stratum");
        }
    }

    private void needDays(int days) {
        if (days < 1 || days > MOST_DAYS) {
            throw new IllegalArgumentException("not 1 to 30 days");
        }
    }

    /** The bytes that were fed. */
    private static final class Tape {
        private final byte[] bytes = new byte[MOST_BYTES];
        int length;

        void append(int number) {
            for (int shift = 24; shift >= 0; shift -= 8) {
                if (length >= 0 && length < MOST_BYTES) {
                    bytes[length] = (byte) (number >>> shift);
                    length++;
                }
            }
        }

        /** 0 to 255, or NONE where no byte is. */
        int byteAt(int place) {
            if (place < 0 || place >= length || place >= MOST_BYTES) {
                return NONE;
            }
            return bytes[place] & 255;
        }
    }

    /**
     * The kinds of tokens. Those of values and of what joins or turns them are
     * the steps of a plan's code as well.
     */
    private static final class Kind {
        static final int SEATS = 0;
        static final int LAYERS = 1;
        static final int EMPIRE = 2;
        static final int FROM = 3;
        static final int TO = 4;
        static final int COIN = 5;
        static final int CRUMBS = 6;
        static final int SPRING = 7;
        static final int IN = 8;
        static final int YEAR = 9;
        static final int OF = 10;
        static final int DIG = 11;
        static final int PROP = 12;
        static final int FREE = 13;
        static final int WHEN = 14;
        static final int DAY = 15;
        static final int FOUND = 16;
        static final int SLIDES = 17;
        static final int PROPS = 18;
        static final int FIRST = 19;
        static final int LAST = 20;
        static final int HEIGHT = 21;
        static final int SEEN = 22;
        static final int SURE = 23;
        static final int NOT = 24;
        static final int AND = 25;
        static final int OR = 26;
        static final int MIN = 27;
        static final int MAX = 28;
        static final int OPEN = 29;
        static final int CLOSE = 30;
        static final int OPEN_TEST = 31;
        static final int CLOSE_TEST = 32;
        static final int SEMICOLON = 33;
        static final int COMMA = 34;
        static final int PLUS = 35;
        static final int MINUS = 36;
        static final int TIMES = 37;
        static final int OVER = 38;
        static final int LESS = 39;
        static final int MORE = 40;
        static final int EQUAL = 41;
        static final int AT_MOST = 42;
        static final int AT_LEAST = 43;
        static final int NAME = 44;
        static final int NUMBER = 45;
        /* A minus in front: no token has this kind, only a step. */
        static final int TURN = 46;
        static final int END = 47;
        static final int BAD = 48;

        /* Each keyword takes WORD_WIDTH signs, in the order of the kinds from SEATS. */
        private static final String WORDS = "seats  layers empire from   to     coin   crumbs spring in     year   of     dig    prop   free   when   day    found  slides props  first  last   height seen   sure   not    and    or     min    max    ";
        private static final int WORD_WIDTH = 7;
        /* Each symbol takes SIGN_WIDTH signs, in the order of the kinds from OPEN. */
        private static final String SIGNS = "( ) [ ] ; , + - * / < > = <=>=";
        private static final int SIGN_WIDTH = 2;

        /** The kind of the word that the tape has at a place: a keyword's, or NAME. */
        static int ofWord(Tape tape, int place, int length) {
            for (int word = 0; (word + 1) * WORD_WIDTH <= WORDS.length(); word++) {
                if (length < WORD_WIDTH && isWord(word * WORD_WIDTH, tape, place, length)) {
                    return SEATS + word;
                }
            }
            return NAME;
        }

        private static boolean isWord(int row, Tape tape, int place, int length) {
            for (int i = 0; i < length; i++) {
                if (WORDS.charAt(row + i) != tape.byteAt(place + i)) {
                    return false;
                }
            }
            return WORDS.charAt(row + length) == ' ';
        }

        /** The kind of the longest symbol that begins with these two bytes, or BAD. */
        static int ofSign(int first, int second) {
            // From behind, because the symbols of two signs stand last.
            for (int row = SIGNS.length() - SIGN_WIDTH; row >= 0; row -= SIGN_WIDTH) {
                if (SIGNS.charAt(row) == first && (SIGNS.charAt(row + 1) == ' ' || SIGNS.charAt(row + 1) == second)) {
                    return OPEN + row / SIGN_WIDTH;
                }
            }
            return BAD;
        }

        static int lengthOfSign(int kind) {
            return kind == AT_MOST || kind == AT_LEAST ? 2 : 1;
        }
    }

    /** The tape's tokens; the last one is the end of the tape, or the first bad token. */
    private static final class Tokens {
        private static final int LONGEST_WORD = 10;
        private static final int LONGEST_NUMBER = 6;
        /* Greater than the number of letters and digits, so that no two names have one number. */
        private static final int NAME_BASE = 37;

        final int[] kinds = new int[MOST_TOKENS + 1];
        final int[] starts = new int[MOST_TOKENS + 1];
        final int[] numbers = new int[MOST_TOKENS + 1];
        final long[] names = new long[MOST_TOKENS + 1];
        int count;
        private final Tape tape;
        private int next;

        Tokens(Tape tape) {
            this.tape = tape;
        }

        void readAll() {
            next = 0;
            count = 0;
            int kind = Kind.COMMA;
            while (count <= MOST_TOKENS && kind != Kind.END && kind != Kind.BAD) {
                skipBlanks();
                starts[count] = next;
                kind = readToken(tape.byteAt(next));
                kinds[count] = kind;
                count++;
            }
        }

        /** Returns the kind of the token that begins with this byte. */
        private int readToken(int first) {
            if (first == NONE) {
                return Kind.END;
            }
            if (count >= MOST_TOKENS) {
                return Kind.BAD;
            }
            if (isLetter(first)) {
                return readWord();
            }
            if (isDigit(first)) {
                return readNumber();
            }
            int kind = Kind.ofSign(first, tape.byteAt(next + 1));
            next += Kind.lengthOfSign(kind);
            return kind;
        }

        private void skipBlanks() {
            for (int i = 0; i < MOST_BYTES && isBlank(tape.byteAt(next)); i++) {
                next++;
            }
        }

        private int readWord() {
            int start = next;
            long name = 0;
            for (int i = 0; i < MOST_BYTES && isOfWord(tape.byteAt(next)); i++) {
                name = name * NAME_BASE + numberOfSign(tape.byteAt(next));
                next++;
            }
            names[count] = name;
            return next - start > LONGEST_WORD ? Kind.BAD : Kind.ofWord(tape, start, next - start);
        }

        private int readNumber() {
            int start = next;
            int number = 0;
            for (int i = 0; i < MOST_BYTES && isDigit(tape.byteAt(next)); i++) {
                number = number * 10 + (tape.byteAt(next) - '0');
                next++;
            }
            numbers[count] = number;
            return next - start > LONGEST_NUMBER ? Kind.BAD : Kind.NUMBER;
        }

        private static int numberOfSign(int sign) {
            return isDigit(sign) ? sign - '0' + 1 : sign - 'a' + 11;
        }

        private static boolean isBlank(int sign) {
            return sign == ' ' || sign == '\n';
        }

        private static boolean isLetter(int sign) {
            return sign >= 'a' && sign <= 'z';
        }

        private static boolean isDigit(int sign) {
            return sign >= '0' && sign <= '9';
        }

        private static boolean isOfWord(int sign) {
            return isLetter(sign) || isDigit(sign);
        }
    }

    /**
     * Reads the tape as a sofa. Grammar and meaning are looked at in one go: the
     * first fault of meaning is kept, and told unless the grammar breaks behind it.
     */
    private static final class Reader {
        private static final int BROKEN = 1;
        private static final int TAKEN = 2;
        private static final int UNKNOWN = 3;
        private static final int TOO_MANY = 4;
        private static final int OUT_OF_RANGE = 5;

        private final Tokens tokens;
        private Told told;
        private int at;
        /* The kind of the token at hand; BAD from where the grammar breaks. */
        private int kind;
        private int error;
        private int errorStart;

        Reader(Tape tape) {
            tokens = new Tokens(tape);
            told = new Told();
            errorStart = NONE;
        }

        /** Returns 0 or the error. */
        int read() {
            error = 0;
            errorStart = NONE;
            told.clear();
            tokens.readAll();
            at = 0;
            kind = tokens.kinds[at];
            if (kind == Kind.SEATS) {
                readSize();
            }
            for (int i = 0; i < MOST_TOKENS && kind != Kind.END && error != BROKEN; i++) {
                readLine();
                expect(Kind.SEMICOLON);
            }
            return error;
        }

        int errorPlace() {
            return errorStart;
        }

        /** Gives what was read away, for another one to read into. */
        Told exchange(Told other) {
            Told read = told;
            told = other;
            return read;
        }

        private void advance() {
            if (at + 1 < tokens.count && at + 1 <= MOST_TOKENS) {
                at++;
                kind = tokens.kinds[at];
            }
        }

        private void refuse() {
            if (error != BROKEN) {
                error = BROKEN;
                errorStart = tokens.starts[at];
            }
            kind = Kind.BAD;
        }

        private void complain(int fault) {
            if (error == 0) {
                error = fault;
                errorStart = tokens.starts[at];
            }
        }

        private void expect(int wanted) {
            if (kind == wanted) {
                advance();
            } else {
                refuse();
            }
        }

        private int expectNumber(int least, int most) {
            int number = tokens.numbers[at];
            if (kind != Kind.NUMBER) {
                refuse();
                return least;
            }
            if (number < least || number > most) {
                complain(OUT_OF_RANGE);
            }
            advance();
            return number;
        }

        private void readSize() {
            expect(Kind.SEATS);
            int seats = expectNumber(LEAST_SIZE, MOST_SEATS);
            expect(Kind.LAYERS);
            int strata = expectNumber(LEAST_SIZE, MOST_STRATA);
            expect(Kind.SEMICOLON);
            if (error == 0) {
                told.resize(seats, strata);
            }
        }

        private void readLine() {
            switch (kind) {
                case Kind.EMPIRE:
                    readEmpire();
                    break;
                case Kind.COIN:
                    readCoin();
                    break;
                case Kind.CRUMBS:
                    readCrumbs();
                    break;
                case Kind.SPRING:
                    readSpring();
                    break;
                case Kind.DIG:
                case Kind.PROP:
                case Kind.FREE:
                    readOrder();
                    break;
                default:
                    refuse();
                    break;
            }
        }

        private void readEmpire() {
            expect(Kind.EMPIRE);
            long name = tokens.names[at];
            if (kind == Kind.NAME && told.empireNamed(name) != NONE) {
                complain(TAKEN);
            } else if (kind == Kind.NAME && told.empires >= MOST_EMPIRES) {
                complain(TOO_MANY);
            }
            expect(Kind.NAME);
            expect(Kind.FROM);
            int from = expectNumber(0, LAST_YEAR);
            expect(Kind.TO);
            int to = expectNumber(from, LAST_YEAR);
            if (error == 0) {
                told.addEmpire(name, from, to);
            }
        }

        private void readCoin() {
            startFind();
            int cushion = readPlace(false);
            expect(Kind.YEAR);
            int year = expectNumber(0, LAST_YEAR);
            if (error == 0) {
                told.addFind(true, cushion, year);
            }
        }

        private void readCrumbs() {
            startFind();
            int cushion = readPlace(false);
            expect(Kind.OF);
            int empire = readKnownEmpire();
            if (error == 0) {
                told.addFind(false, cushion, empire);
            }
        }

        private void startFind() {
            if (told.finds >= MOST_FINDS) {
                complain(TOO_MANY);
            }
            advance();
        }

        private void readSpring() {
            expect(Kind.SPRING);
            int cushion = readPlace(true);
            if (error == 0) {
                told.addSpring(cushion);
            }
        }

        /** Returns the cushion of the place, or NONE behind an error. */
        private int readPlace(boolean forSpring) {
            expect(Kind.IN);
            int seat = expectNumber(0, told.seats - 1);
            expect(Kind.COMMA);
            int cushion = kind == Kind.NUMBER ? told.cushionTold(seat, tokens.numbers[at]) : NONE;
            if (forSpring ? told.hasSpring(cushion) : told.findIn(cushion) != NONE) {
                complain(TAKEN);
            }
            expectNumber(0, told.strata - 1);
            return error == 0 ? cushion : NONE;
        }

        private int readKnownEmpire() {
            if (kind != Kind.NAME) {
                refuse();
                return NONE;
            }
            int empire = told.empireNamed(tokens.names[at]);
            if (empire == NONE) {
                complain(UNKNOWN);
            }
            advance();
            return empire;
        }

        private void readOrder() {
            if (told.plan.orders >= MOST_ORDERS) {
                complain(TOO_MANY);
            }
            int order = kind;
            advance();
            readSum(0);
            int sumEnd = told.plan.steps;
            if (kind == Kind.WHEN) {
                advance();
                readTest(0);
            }
            if (error == 0) {
                told.plan.addOrder(order, sumEnd);
            }
        }

        private void readTest(int depth) {
            readBoth(depth);
            for (int i = 0; i < MOST_TOKENS && kind == Kind.OR; i++) {
                advance();
                readBoth(depth);
                told.plan.addStep(Kind.OR, 0);
            }
        }

        private void readBoth(int depth) {
            readSingle(depth);
            for (int i = 0; i < MOST_TOKENS && kind == Kind.AND; i++) {
                advance();
                readSingle(depth);
                told.plan.addStep(Kind.AND, 0);
            }
        }

        private void readSingle(int depth) {
            switch (kind) {
                case Kind.NOT:
                    if (goesDeeper(Kind.NOT, depth)) {
                        readSingle(depth + 1);
                        told.plan.addStep(Kind.NOT, 0);
                    }
                    break;
                case Kind.OPEN_TEST:
                    if (goesDeeper(Kind.OPEN_TEST, depth)) {
                        readTest(depth + 1);
                        expect(Kind.CLOSE_TEST);
                    }
                    break;
                case Kind.SEEN:
                    advance();
                    told.plan.addStep(Kind.SEEN, readKnownEmpire());
                    break;
                case Kind.SURE:
                    advance();
                    readSum(depth);
                    told.plan.addStep(Kind.SURE, 0);
                    break;
                default:
                    readSum(depth);
                    int comparison = kind;
                    expectComparison();
                    readSum(depth);
                    told.plan.addStep(comparison, 0);
                    break;
            }
        }

        private void expectComparison() {
            if (kind >= Kind.LESS && kind <= Kind.AT_LEAST) {
                advance();
            } else {
                refuse();
            }
        }

        private void readSum(int depth) {
            readProduct(depth);
            for (int i = 0; i < MOST_TOKENS && (kind == Kind.PLUS || kind == Kind.MINUS); i++) {
                int sign = kind;
                advance();
                readProduct(depth);
                told.plan.addStep(sign, 0);
            }
        }

        private void readProduct(int depth) {
            readValue(depth);
            for (int i = 0; i < MOST_TOKENS && (kind == Kind.TIMES || kind == Kind.OVER); i++) {
                int sign = kind;
                advance();
                readValue(depth);
                told.plan.addStep(sign, 0);
            }
        }

        private void readValue(int depth) {
            int value = kind;
            switch (value) {
                case Kind.NUMBER:
                    told.plan.addStep(Kind.NUMBER, tokens.numbers[at]);
                    advance();
                    break;
                case Kind.DAY:
                case Kind.FOUND:
                case Kind.SLIDES:
                case Kind.PROPS:
                    told.plan.addStep(value, 0);
                    advance();
                    break;
                case Kind.FIRST:
                case Kind.LAST:
                    advance();
                    expect(Kind.OF);
                    told.plan.addStep(value, readKnownEmpire());
                    break;
                case Kind.HEIGHT:
                    advance();
                    readEnclosed(depth);
                    told.plan.addStep(Kind.HEIGHT, 0);
                    break;
                case Kind.MINUS:
                    if (goesDeeper(Kind.MINUS, depth)) {
                        readValue(depth + 1);
                        told.plan.addStep(Kind.TURN, 0);
                    }
                    break;
                case Kind.OPEN:
                    readEnclosed(depth);
                    break;
                case Kind.MIN:
                case Kind.MAX:
                    advance();
                    readPair(depth);
                    told.plan.addStep(value, 0);
                    break;
                default:
                    refuse();
                    break;
            }
        }

        private void readEnclosed(int depth) {
            if (goesDeeper(Kind.OPEN, depth)) {
                readSum(depth + 1);
                expect(Kind.CLOSE);
            }
        }

        private void readPair(int depth) {
            if (goesDeeper(Kind.OPEN, depth)) {
                readSum(depth + 1);
                expect(Kind.COMMA);
                readSum(depth + 1);
                expect(Kind.CLOSE);
            }
        }

        private boolean goesDeeper(int opening, int depth) {
            if (kind != opening || depth >= MOST_DEPTH) {
                refuse();
                return false;
            }
            advance();
            return true;
        }
    }

    /** What a tape tells: a sofa of which nothing was dug yet. */
    private static final class Told {
        final Plan plan = new Plan();
        int seats;
        int strata;
        int empires;
        int finds;
        private final long[] names = new long[MOST_EMPIRES];
        private final int[] froms = new int[MOST_EMPIRES];
        private final int[] tos = new int[MOST_EMPIRES];
        private final boolean[] coins = new boolean[MOST_FINDS];
        private final int[] cushions = new int[MOST_FINDS];
        /* The year of a coin, the empire of crumbs. */
        private final int[] details = new int[MOST_FINDS];
        private final int[] findsIn = new int[MOST_CUSHIONS];
        private final boolean[] springsIn = new boolean[MOST_CUSHIONS];

        Told() {
            clear();
        }

        void clear() {
            resize(PLAIN_SEATS, PLAIN_STRATA);
            empires = 0;
            finds = 0;
            Arrays.fill(findsIn, NONE);
            for (int cushion = 0; cushion < MOST_CUSHIONS; cushion++) {
                springsIn[cushion] = false;
            }
            plan.clear();
        }

        void resize(int seatCount, int stratumCount) {
            seats = seatCount;
            strata = stratumCount;
        }

        void addEmpire(long name, int from, int to) {
            if (empires < MOST_EMPIRES) {
                names[empires] = name;
                froms[empires] = from;
                tos[empires] = to;
                empires++;
            }
        }

        void addFind(boolean coin, int cushion, int detail) {
            if (finds < MOST_FINDS && isCushion(cushion)) {
                coins[finds] = coin;
                cushions[finds] = cushion;
                details[finds] = detail;
                findsIn[cushion] = finds;
                finds++;
            }
        }

        void addSpring(int cushion) {
            if (isCushion(cushion)) {
                springsIn[cushion] = true;
            }
        }

        int empireNamed(long name) {
            for (int empire = 0; empire < empires; empire++) {
                if (names[empire] == name) {
                    return empire;
                }
            }
            return NONE;
        }

        /** The seat that a sum tells. */
        int seatOfSum(int sum) {
            return seats < LEAST_SIZE ? 0 : Math.floorMod(sum, seats);
        }

        int cushionTold(int seat, int stratum) {
            if (seat < 0 || seat >= seats || stratum < 0 || stratum >= strata) {
                return NONE;
            }
            return seat * MOST_STRATA + stratum;
        }

        int stratumOfCushion(int cushion) {
            return isCushion(cushion) ? cushion % MOST_STRATA : NONE;
        }

        int findIn(int cushion) {
            return isCushion(cushion) ? findsIn[cushion] : NONE;
        }

        boolean hasSpring(int cushion) {
            return isCushion(cushion) && springsIn[cushion];
        }

        boolean tellsCoin(int find) {
            return isFind(find) && coins[find];
        }

        int cushionOf(int find) {
            return isFind(find) ? cushions[find] : NONE;
        }

        int stratumOfFind(int find) {
            return stratumOfCushion(cushionOf(find));
        }

        int coinYear(int find) {
            return tellsCoin(find) ? details[find] : NONE;
        }

        int crumbsEmpire(int find) {
            return isFind(find) && !coins[find] ? details[find] : NONE;
        }

        int fromOf(int empire) {
            return isEmpire(empire) ? froms[empire] : NONE;
        }

        int toOf(int empire) {
            return isEmpire(empire) ? tos[empire] : NONE;
        }

        /** The year before which a find was not lost. */
        int earliestYearOf(int find) {
            return tellsCoin(find) ? coinYear(find) : fromOf(crumbsEmpire(find));
        }

        private boolean isEmpire(int empire) {
            return empire >= 0 && empire < empires;
        }

        private boolean isFind(int find) {
            return find >= 0 && find < finds;
        }

        private static boolean isCushion(int cushion) {
            return cushion >= 0 && cushion < MOST_CUSHIONS;
        }
    }

    /**
     * The orders, and their sums and tests as steps that take values from a pile
     * and put one on it: of each order first the sum, then the test.
     */
    private static final class Plan {
        int orders;
        int steps;
        private final int[] kinds = new int[MOST_ORDERS];
        private final int[] sumEnds = new int[MOST_ORDERS];
        private final int[] testEnds = new int[MOST_ORDERS];
        /* No token makes more than one step. */
        private final int[] stepKinds = new int[MOST_TOKENS];
        private final int[] stepDetails = new int[MOST_TOKENS];

        void clear() {
            orders = 0;
            steps = 0;
        }

        void addStep(int kind, int detail) {
            if (steps < MOST_TOKENS) {
                stepKinds[steps] = kind;
                stepDetails[steps] = detail;
                steps++;
            }
        }

        /** The test is what stands behind the sum; without one there is nothing. */
        void addOrder(int kind, int sumEnd) {
            if (orders < MOST_ORDERS) {
                kinds[orders] = kind;
                sumEnds[orders] = sumEnd;
                testEnds[orders] = steps;
                orders++;
            }
        }

        int kindOf(int order) {
            return isOrder(order) ? kinds[order] : Kind.BAD;
        }

        int sumStart(int order) {
            return testEnd(order - 1);
        }

        int sumEnd(int order) {
            return isOrder(order) ? sumEnds[order] : 0;
        }

        int testEnd(int order) {
            return isOrder(order) ? testEnds[order] : 0;
        }

        int stepKind(int step) {
            return isStep(step) ? stepKinds[step] : Kind.BAD;
        }

        int stepDetail(int step) {
            return isStep(step) ? stepDetails[step] : 0;
        }

        private boolean isOrder(int order) {
            return order >= 0 && order < orders;
        }

        private boolean isStep(int step) {
            return step >= 0 && step < steps;
        }
    }

    /** What stands of a sofa, and what was found in it. */
    private static final class Sofa {
        Told told;
        /* MOST_STRATA places a seat, the lowest cushion first. */
        private final int[] stacks = new int[MOST_CUSHIONS];
        private final int[] heights = new int[MOST_SEATS];
        private final boolean[] loose = new boolean[MOST_CUSHIONS];
        private final boolean[] propped = new boolean[MOST_SEATS];
        private final boolean[] foundOnes = new boolean[MOST_FINDS];
        private final boolean[] sureOnes = new boolean[MOST_FINDS];
        int days;
        int carriedOut;
        int dug;
        int slid;
        int foundCount;
        int sureCount;
        int propCount;

        Sofa(Told told) {
            this.told = told;
            begin(told);
        }

        void begin(Told anew) {
            told = anew;
            for (int cushion = 0; cushion < MOST_CUSHIONS; cushion++) {
                stacks[cushion] = cushion;
                loose[cushion] = false;
            }
            for (int seat = 0; seat < MOST_SEATS; seat++) {
                heights[seat] = seat < told.seats ? told.strata : 0;
                propped[seat] = false;
            }
            for (int find = 0; find < MOST_FINDS; find++) {
                foundOnes[find] = false;
                sureOnes[find] = false;
            }
            days = 0;
            carriedOut = 0;
            dug = 0;
            slid = 0;
            foundCount = 0;
            sureCount = 0;
            propCount = 0;
        }

        void copyFrom(Sofa other) {
            told = other.told;
            for (int cushion = 0; cushion < MOST_CUSHIONS; cushion++) {
                stacks[cushion] = other.stacks[cushion];
                loose[cushion] = other.loose[cushion];
            }
            for (int seat = 0; seat < MOST_SEATS; seat++) {
                heights[seat] = other.heights[seat];
                propped[seat] = other.propped[seat];
            }
            for (int find = 0; find < MOST_FINDS; find++) {
                foundOnes[find] = other.foundOnes[find];
                sureOnes[find] = other.sureOnes[find];
            }
            days = other.days;
            carriedOut = other.carriedOut;
            dug = other.dug;
            slid = other.slid;
            foundCount = other.foundCount;
            sureCount = other.sureCount;
            propCount = other.propCount;
        }

        /** 0 where no seat is. */
        int heightAt(int seat) {
            return seat >= 0 && seat < MOST_SEATS ? heights[seat] : 0;
        }

        boolean hasProp(int seat) {
            return seat >= 0 && seat < MOST_SEATS && propped[seat];
        }

        /** The highest cushion, or NONE. */
        int topOf(int seat) {
            return cushionAt(seat, heightAt(seat) - 1);
        }

        boolean isLoose(int cushion) {
            return cushion >= 0 && cushion < MOST_CUSHIONS && loose[cushion];
        }

        boolean wasFound(int find) {
            return find >= 0 && find < MOST_FINDS && foundOnes[find];
        }

        /** Whether it was found and is sure. */
        boolean wasSure(int find) {
            return find >= 0 && find < MOST_FINDS && sureOnes[find];
        }

        int findsInStack(int seat) {
            int count = 0;
            for (int level = 0; level < heightAt(seat); level++) {
                if (told.findIn(cushionAt(seat, level)) != NONE) {
                    count++;
                }
            }
            return count;
        }

        int cushionsAbove(int cushion) {
            for (int seat = 0; seat < told.seats; seat++) {
                for (int level = 0; level < heightAt(seat); level++) {
                    if (cushionAt(seat, level) == cushion) {
                        return heightAt(seat) - 1 - level;
                    }
                }
            }
            return 0;
        }

        int earliestYear(int stratum) {
            int year = NONE;
            for (int find = 0; find < told.finds; find++) {
                if (wasSure(find) && told.stratumOfFind(find) <= stratum) {
                    year = Math.max(year, told.earliestYearOf(find));
                }
            }
            return year;
        }

        boolean sawEmpire(int stratum, int empire) {
            for (int find = 0; find < told.finds; find++) {
                if (wasSure(find) && told.stratumOfFind(find) == stratum && told.crumbsEmpire(find) == empire) {
                    return true;
                }
            }
            return false;
        }

        boolean sawEmpireAnywhere(int empire) {
            for (int find = 0; find < told.finds; find++) {
                if (wasSure(find) && told.crumbsEmpire(find) == empire) {
                    return true;
                }
            }
            return false;
        }

        boolean showsMixture(int stratum) {
            for (int early = 0; early < told.empires; early++) {
                for (int late = 0; late < told.empires; late++) {
                    if (told.toOf(early) < told.fromOf(late) && sawEmpire(stratum, early) && sawEmpire(stratum, late)) {
                        return true;
                    }
                }
            }
            return false;
        }

        /** Returns the find that was found, or NONE. */
        int digSeat(int seat) {
            int cushion = topOf(seat);
            int find = told.findIn(cushion);
            if (cushion != NONE && heightAt(seat) > 0) {
                heights[seat]--;
                dug++;
                noteFind(find, !isLoose(cushion));
                settle();
            }
            return find;
        }

        boolean canProp(int seat) {
            return seat >= 0 && seat < told.seats && !hasProp(seat) && propCount < MOST_PROPS;
        }

        void putProp(int seat) {
            if (canProp(seat)) {
                propped[seat] = true;
                propCount++;
            }
        }

        void freeSeat(int seat) {
            if (hasProp(seat)) {
                propped[seat] = false;
                propCount--;
                settle();
            }
        }

        private void noteFind(int find, boolean sure) {
            if (find < 0 || find >= MOST_FINDS) {
                return;
            }
            foundOnes[find] = true;
            foundCount++;
            if (sure) {
                sureOnes[find] = true;
                sureCount++;
            }
        }

        private void settle() {
            int seat = 0;
            for (int i = 0; i < MOST_LOOKS && seat < told.seats; i++) {
                if (slidesOnto(seat - 1, seat)) {
                    moveTop(seat - 1, seat);
                    seat = 0;
                } else if (slidesOnto(seat + 1, seat)) {
                    moveTop(seat + 1, seat);
                    seat = 0;
                } else {
                    seat++;
                }
            }
        }

        private boolean slidesOnto(int from, int to) {
            return heightAt(from) - heightAt(to) > HIGHEST_STEP && !hasProp(from) && !told.hasSpring(topOf(from));
        }

        private void moveTop(int from, int to) {
            int level = heightAt(to);
            int cushion = cushionAt(from, heightAt(from) - 1);
            if (cushion >= 0 && cushion < MOST_CUSHIONS && to >= 0 && to < MOST_SEATS && level < MOST_STRATA) {
                heights[from]--;
                stacks[to * MOST_STRATA + level] = cushion;
                heights[to] = level + 1;
                loose[cushion] = true;
                slid++;
            }
        }

        private int cushionAt(int seat, int level) {
            if (seat < 0 || seat >= MOST_SEATS || level < 0 || level >= MOST_STRATA) {
                return NONE;
            }
            return stacks[seat * MOST_STRATA + level];
        }
    }

    /** Lets days go by on a sofa, as the plan that was told for it says. */
    private static final class Planner {
        /* No step puts more than one value on the pile. */
        private final int[] pile = new int[MOST_TOKENS];
        private int piled;

        void liveDays(Sofa sofa, int days) {
            Plan plan = sofa.told.plan;
            for (int day = 0; day < days; day++) {
                for (int order = 0; order < plan.orders; order++) {
                    if (isDue(sofa, plan, order)) {
                        int sum = reckon(sofa, plan.sumStart(order), plan.sumEnd(order));
                        carryOut(sofa, plan.kindOf(order), sofa.told.seatOfSum(sum));
                    }
                }
                sofa.days++;
            }
        }

        private boolean isDue(Sofa sofa, Plan plan, int order) {
            int start = plan.sumEnd(order);
            int end = plan.testEnd(order);
            return start == end || reckon(sofa, start, end) != 0;
        }

        private static void carryOut(Sofa sofa, int kind, int seat) {
            if (kind == Kind.DIG && sofa.heightAt(seat) > 0) {
                sofa.digSeat(seat);
                sofa.carriedOut++;
            } else if (kind == Kind.PROP && sofa.canProp(seat)) {
                sofa.putProp(seat);
                sofa.carriedOut++;
            } else if (kind == Kind.FREE && sofa.hasProp(seat)) {
                sofa.freeSeat(seat);
                sofa.carriedOut++;
            }
        }

        private int reckon(Sofa sofa, int start, int end) {
            Plan plan = sofa.told.plan;
            piled = 0;
            for (int step = start; step < end; step++) {
                takeStep(sofa, plan.stepKind(step), plan.stepDetail(step));
            }
            return pull();
        }

        private void takeStep(Sofa sofa, int kind, int detail) {
            switch (kind) {
                case Kind.NUMBER:
                    push(detail);
                    break;
                case Kind.DAY:
                    push(sofa.days);
                    break;
                case Kind.FOUND:
                    push(sofa.foundCount);
                    break;
                case Kind.SLIDES:
                    push(sofa.slid);
                    break;
                case Kind.PROPS:
                    push(sofa.propCount);
                    break;
                case Kind.FIRST:
                    push(sofa.told.fromOf(detail));
                    break;
                case Kind.LAST:
                    push(sofa.told.toOf(detail));
                    break;
                case Kind.SEEN:
                    pushTruth(sofa.sawEmpireAnywhere(detail));
                    break;
                case Kind.HEIGHT:
                    push(sofa.heightAt(sofa.told.seatOfSum(pull())));
                    break;
                case Kind.SURE:
                    pushTruth(sofa.wasSure(pull()));
                    break;
                case Kind.TURN:
                    push(-pull());
                    break;
                case Kind.NOT:
                    pushTruth(pull() == 0);
                    break;
                default:
                    int second = pull();
                    int first = pull();
                    push(join(kind, first, second));
                    break;
            }
        }

        private static int join(int kind, int first, int second) {
            switch (kind) {
                case Kind.PLUS:
                    return first + second;
                case Kind.MINUS:
                    return first - second;
                case Kind.TIMES:
                    return first * second;
                case Kind.OVER:
                    return second == 0 ? 0 : first / second;
                case Kind.MIN:
                    return Math.min(first, second);
                case Kind.MAX:
                    return Math.max(first, second);
                case Kind.AND:
                    return first & second;
                case Kind.OR:
                    return first | second;
                default:
                    return compares(kind, first, second) ? 1 : 0;
            }
        }

        private static boolean compares(int kind, int first, int second) {
            switch (kind) {
                case Kind.LESS:
                    return first < second;
                case Kind.MORE:
                    return first > second;
                case Kind.EQUAL:
                    return first == second;
                case Kind.AT_MOST:
                    return first <= second;
                case Kind.AT_LEAST:
                    return first >= second;
                default:
                    return false;
            }
        }

        private void pushTruth(boolean truth) {
            push(truth ? 1 : 0);
        }

        private void push(int value) {
            if (piled >= 0 && piled < MOST_TOKENS) {
                pile[piled] = value;
                piled++;
            }
        }

        private int pull() {
            if (piled <= 0 || piled > MOST_TOKENS) {
                return 0;
            }
            piled--;
            return pile[piled];
        }
    }
}
