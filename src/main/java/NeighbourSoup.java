import java.util.Arrays;
import java.util.NoSuchElementException;

/**
 * Soup of the neighbours: a pot goes down a street, each house takes a ladle of it and puts one thing in.
 *
 * <p>All rows are made with the object and used again; no call makes an object.
 */
public final class NeighbourSoup {
    public static final int NONE = -1;
    public static final int HIDDEN = -100000000;

    private static final int MOST_BYTES = 160;
    private static final int MOST_HOUSES = 6;
    private static final int MOST_HOUSES_FOR_PUTS = 5;
    private static final int MOST_LIKINGS = 4;
    private static final int MOST_NESTED = 6;
    private static final int MOST_DAYS_AT_ONCE = 30;
    private static final int MOST_UNDONE = 30;
    private static final int LAST_DAY = 999;
    private static final int MOST_GRAINS = 99;
    private static final int MOST_NOONS = 99;
    private static final int MOST_WORTH = 1000000;
    private static final int WEEK = 7;
    /** Above all grains and all meals. */
    private static final int GREATEST_INT = 2147483647;

    private static final int STUFFS = 5;
    private static final int NOTHING = 9;
    /** A stuff behind the others, which no meal counts. */
    private static final int POISON = 5;
    private static final int POT_STUFFS = 6;

    /** Behind the last byte of a tape: no byte of a tape is 0. */
    private static final int END = 0;
    private static final int BLANK = 32;

    private static final int STREET_TEXT = 0;
    private static final int LIKING_TEXT = 1;
    private static final int NO_SUCH_SORT = -2;

    private static final int TOGETHER = 0;

    private static final String POT_ITEMS = "abcde";
    private static final int[] POT_USUAL = {50, 0, 0, 0, 0};
    private static final int[] POT_LEAST = {0, 0, 0, 0, 0};
    private static final int[] POT_MOST = {99, 99, 99, 99, 99};

    private static final String HOUSE_ITEMS = "abcdelkn";
    private static final int[] HOUSE_USUAL = {0, 0, 0, 0, 0, 20, 0, 5};
    private static final int[] HOUSE_LEAST = {0, 0, 0, 0, 0, 0, 0, 0};
    private static final int[] HOUSE_MOST = {99, 99, 99, 99, 99, 99, 4, 5};
    private static final int HOUSE_ITEM_COUNT = 8;
    private static final int LADLE_ITEM = 5;
    private static final int LIKES_ITEM = 6;
    private static final int BARS_ITEM = 7;

    private static final String LAW_ITEMS = "gtc";
    private static final int LAW_ITEM_COUNT = 3;
    private static final int[] LAW_USUAL = {10, 1, 5};
    private static final int[] LAW_LEAST = {1, 0, 0};
    private static final int[] LAW_MOST = {30, 1, 20};

    private static final String LIKING_LETTERS = "lnshit";

    private static final int[] TENS = {1, 10, 100, 1000, 10000, 100000};

    private final Tape tape;
    private final StreetReader streetReader;
    private final LikingReader likingReader;
    private final Liking[] likings;
    private int likingCount;
    private int holding;
    private final Street street;
    private final State now;
    private final State trial;
    private final State kept;
    private boolean hasImage;
    private final Past past;
    private final Noon noon;
    private final Best best;
    private final int[] totals;

    public NeighbourSoup() {
        tape = new Tape();
        streetReader = new StreetReader(tape);
        likingReader = new LikingReader(tape);
        likings = new Liking[MOST_LIKINGS];
        for (int i = 0; i < MOST_LIKINGS; i++) {
            likings[i] = new Liking();
        }
        likingCount = 0;
        holding = NONE;
        street = new Street();
        now = new State();
        trial = new State();
        kept = new State();
        hasImage = false;
        past = new Past();
        noon = new Noon(street);
        best = new Best(street, now, noon);
        totals = new int[MOST_HOUSES];
    }

    public int feed(int a, int b, int c, int d, int e) {
        int more = Tape.bytesOf(a) + Tape.bytesOf(b) + Tape.bytesOf(c) + Tape.bytesOf(d) + Tape.bytesOf(e);
        if (tape.length + more > MOST_BYTES) {
            return NONE;
        }
        tape.add(a);
        tape.add(b);
        tape.add(c);
        tape.add(d);
        tape.add(e);
        return tape.length;
    }

    public boolean end(int n) {
        if (n < 0 || n > tape.length) {
            return false;
        }
        tape.length = n;
        return true;
    }

    public int fault(int sort) {
        if (sort == STREET_TEXT) {
            return streetReader.read();
        }
        if (sort == LIKING_TEXT) {
            return likingReader.read();
        }
        return NO_SUCH_SORT;
    }

    public int text(int sort) {
        if (sort == STREET_TEXT && streetReader.read() == NONE) {
            tape.length = 0;
            moveToStreet();
            return street.houses;
        }
        if (sort == LIKING_TEXT && likingCount < MOST_LIKINGS && likingReader.read() == NONE) {
            tape.length = 0;
            likings[likingCount].learn(likingReader);
            likingCount++;
            return likingCount - 1;
        }
        return NONE;
    }

    private void moveToStreet() {
        street.learn(streetReader);
        now.begin(streetReader);
        past.forget();
        hasImage = false;
        hold(NONE);
    }

    public int house(int house, int what) throws NoSuchElementException {
        if (!isHouse(house)) {
            throw new NoSuchElementException("no such house");
        }
        if (isStuff(what)) {
            return now.store(house, what);
        }
        switch (what) {
            case 5:
                return street.ladle[house];
            case 6:
                return street.likes[house];
            case 7:
                return street.bars[house];
            case 8:
                return now.puts[house];
            case 9:
                return now.placeOf(house);
            default:
                throw new NoSuchElementException("no such thing of a house");
        }
    }

    public boolean liking(int liking) {
        if (!hasStreet() || liking < NONE || liking >= likingCount) {
            return false;
        }
        hold(liking);
        return true;
    }

    private void hold(int liking) {
        holding = liking;
        noon.liking = liking >= 0 && liking < MOST_LIKINGS ? likings[liking] : null;
    }

    public boolean order(int order) {
        if (!hasStreet() || !isOrder(order)) {
            return false;
        }
        int rest = order;
        for (int place = street.houses - 1; place >= 0; place--) {
            now.order[place] = rest % 10;
            rest = rest / 10;
        }
        return true;
    }

    private boolean isOrder(int order) {
        if (order < 0) {
            return false;
        }
        int rest = order;
        int met = 0;
        for (int place = 0; place < street.houses; place++) {
            int house = rest % 10;
            if (house >= street.houses || (met >> house & 1) == 1) {
                return false;
            }
            met |= 1 << house;
            rest = rest / 10;
        }
        return rest == 0;
    }

    public boolean put(int house, int stuff) {
        if (!isHouse(house) || !isStuff(stuff) && stuff != NOTHING) {
            return false;
        }
        now.puts[house] = stuff;
        return true;
    }

    public boolean fill(int house, int stuff, int grains) {
        if (!isHouse(house) || !isStuff(stuff) || !isWithin(grains, 0, MOST_GRAINS)) {
            return false;
        }
        now.setStore(house, stuff, grains);
        return true;
    }

    public int meal(int house) {
        if (!isHouse(house)) {
            return HIDDEN;
        }
        noon.run(now);
        return noon.mealOf(house);
    }

    public int share(int house, int stuff) {
        if (!isHouse(house) || !isStuff(stuff)) {
            return NONE;
        }
        noon.run(now);
        return noon.got(house, stuff);
    }

    public int heat(int house) {
        if (!isHouse(house)) {
            return NONE;
        }
        noon.run(now);
        return noon.heatOf(house);
    }

    public int first() {
        if (!hasStreet()) {
            return NONE;
        }
        noon.run(now);
        return noon.breaker;
    }

    public int days(int n) {
        if (!canGoOn(n)) {
            return NONE;
        }
        for (int i = 0; i < n; i++) {
            goOn();
        }
        return now.day;
    }

    private boolean canGoOn(int n) {
        return hasStreet() && isWithin(n, 1, MOST_DAYS_AT_ONCE) && now.day + n <= LAST_DAY;
    }

    private void goOn() {
        past.keep(now);
        noon.run(now);
        for (int house = 0; house < street.houses; house++) {
            now.eaten[house] += noon.mealOf(house);
        }
        for (int place = 0; place < street.houses - 1; place++) {
            now.usePut(now.order[place], street.grains);
        }
        now.day++;
    }

    public int undo() {
        if (!past.restore(now)) {
            return NONE;
        }
        return now.day;
    }

    public int eaten(int house) {
        return isHouse(house) ? now.eaten[house] : HIDDEN;
    }

    public int puts(int wish, int what) {
        if (!hasStreet() || street.houses > MOST_HOUSES_FOR_PUTS || !isChoice(wish) || !isChoice(what)) {
            return HIDDEN;
        }
        best.findPuts(wish);
        return what == 0 ? best.digits : best.value;
    }

    public int orders(int wish, int what) {
        if (!hasStreet() || !isChoice(wish) || !isChoice(what)) {
            return HIDDEN;
        }
        best.findOrder(wish);
        return what == 0 ? best.digits : best.value;
    }

    public int bestFor(int house, int other, int what) {
        if (!isHouse(house) || !isHouse(other) || house == other || !isChoice(what)) {
            return HIDDEN;
        }
        trial.copy(now);
        int bestPut = NOTHING;
        int bestMeal = HIDDEN;
        for (int i = 0; i <= STUFFS; i++) {
            int stuff = putByNumber(i);
            trial.puts[house] = stuff;
            noon.run(trial);
            int meal = noon.mealOf(other);
            if (meal > bestMeal) {
                bestMeal = meal;
                bestPut = stuff;
            }
        }
        return what == 0 ? bestPut : bestMeal;
    }

    /** Puts by numbers 0 .. 5: behind the stuffs comes nothing. */
    private static int putByNumber(int number) {
        return number < STUFFS ? number : NOTHING;
    }

    public int about(int house, int n) {
        if (!hasStreet() || house != NONE && !isHouse(house) || !isWithin(n, 1, MOST_DAYS_AT_ONCE)) {
            return HIDDEN;
        }
        Arrays.fill(totals, 0);
        trial.copy(now);
        for (int i = 0; i < n; i++) {
            noon.run(trial);
            for (int h = 0; h < street.houses; h++) {
                totals[h] += noon.mealOf(h);
            }
            trial.turnOrder(street.houses);
            trial.day++;
        }
        return house == NONE ? lowestOfTotals() : totals[house];
    }

    private int lowestOfTotals() {
        int lowest = 0;
        for (int house = 1; house < street.houses; house++) {
            if (totals[house] < totals[lowest]) {
                lowest = house;
            }
        }
        return lowest;
    }

    public int poison(int from, int grains, int house) {
        if (!isHouse(from) || !isWithin(grains, 1, MOST_GRAINS) || !isHouse(house)) {
            return NONE;
        }
        noon.runPoisoned(now, from, grains);
        return noon.got(house, POISON);
    }

    public int guilty(int grains, int least, int set) {
        if (!hasStreet() || !isWithin(grains, 1, MOST_GRAINS) || !isWithin(least, 1, MOST_GRAINS)
                || set < 0 || set >= 1 << street.houses) {
            return NONE;
        }
        int found = 0;
        for (int from = 0; from < street.houses; from++) {
            noon.runPoisoned(now, from, grains);
            if (noon.poisoned(least) == set) {
                found |= 1 << from;
            }
        }
        return found;
    }

    public int harm(int house, int least, int what) {
        if (!isHouse(house) || !isWithin(least, 1, MOST_GRAINS) || !isChoice(what)) {
            return NONE;
        }
        int way = NONE;
        int leastHarm = NONE;
        // fewer grains than that can't be enough: nobody gets more than is put in
        for (int grains = least; grains <= MOST_GRAINS; grains++) {
            for (int from = 0; from < street.houses; from++) {
                noon.runPoisoned(now, from, grains);
                int own = noon.got(house, POISON);
                int others = noon.poisonOfAll() - own;
                if (own >= least && (way == NONE || others < leastHarm)) {
                    way = 100 * from + grains;
                    leastHarm = others;
                }
            }
        }
        return what == 0 ? way : leastHarm;
    }

    public int stranger(int place, int ladle, int what) {
        if (!isHouse(place) || !isWithin(ladle, 0, MOST_GRAINS) || !isChoice(what)) {
            return HIDDEN;
        }
        noon.run(now);
        int without = noon.mealsTogether();
        noon.runWithStranger(now, place, ladle);
        return what == 0 ? noon.strangerGrains() : without - noon.mealsTogether();
    }

    public int exchange(int what) {
        if (!hasStreet() || !isChoice(what)) {
            return HIDDEN;
        }
        noon.run(now);
        int pair = NONE;
        int greatest = noon.leastMeal();
        for (int one = 0; one < street.houses; one++) {
            for (int other = one + 1; other < street.houses; other++) {
                int meal = leastMealExchanged(one, other);
                if (meal > greatest) {
                    greatest = meal;
                    pair = 10 * one + other;
                }
            }
        }
        return what == 0 ? pair : greatest;
    }

    private int leastMealExchanged(int one, int other) {
        street.exchangeLadles(one, other);
        noon.run(now);
        int meal = noon.leastMeal();
        street.exchangeLadles(one, other);
        return meal;
    }

    public int lasts(int house) {
        if (!isHouse(house) || !isStuff(now.puts[house]) || street.grains < 1) {
            return NONE;
        }
        int noons = now.store(house, now.puts[house]) / street.grains;
        boolean usesNone = now.placeOf(house) == street.houses - 1;
        if (usesNone && noons > 0) {
            return MOST_NOONS;
        }
        return Math.min(noons, MOST_NOONS);
    }

    public int left() {
        if (!hasStreet()) {
            return NONE;
        }
        noon.run(now);
        return noon.grainsOf(now.order[street.houses - 1]);
    }

    public int drawn(int n, long seed) {
        if (!canGoOn(n)) {
            return NONE;
        }
        long x = seed;
        for (int i = 0; i < n; i++) {
            for (int house = 0; house < street.houses; house++) {
                x = x * 6364136223846793005L + 1442695040888963407L;
                now.puts[house] = putByNumber((int) ((x >>> 33) % (STUFFS + 1)));
            }
            goOn();
        }
        return now.day;
    }

    public int image() {
        if (!hasStreet()) {
            return NONE;
        }
        kept.copy(now);
        hasImage = true;
        return now.day;
    }

    public int back() {
        if (!hasImage) {
            return NONE;
        }
        now.copy(kept);
        past.forget();
        return now.day;
    }

    public int count(int what) {
        switch (what) {
            case 0:
                return street.houses;
            case 1:
                return likingCount;
            case 2:
                return tape.length;
            case 3:
                return now.day;
            case 4:
                return holding;
            case 5:
                return street.grains;
            case 6:
                return street.twice;
            case 7:
                return street.colder;
            case 8:
                return past.size;
            case 9:
                return asDigits(now.order);
            case 10:
                return asDigits(now.puts);
            default:
                return HIDDEN;
        }
    }

    private int asDigits(int[] row) {
        int digits = 0;
        for (int i = 0; i < street.houses && i < row.length; i++) {
            digits = digits * 10 + row[i];
        }
        return digits;
    }

    private boolean hasStreet() {
        return street.houses > 0;
    }

    private boolean isHouse(int house) {
        return house >= 0 && house < street.houses;
    }

    private static boolean isStuff(int stuff) {
        return stuff >= 0 && stuff < STUFFS;
    }

    private static boolean isChoice(int choice) {
        return choice == 0 || choice == 1;
    }

    private static boolean isWithin(int number, int least, int most) {
        return number >= least && number <= most;
    }

    /** The bytes told so far. */
    private static final class Tape {
        private final int[] bytes = new int[MOST_BYTES];
        private int length;

        static int bytesOf(int number) {
            int found = 0;
            for (int shift = 24; shift >= 0; shift -= 8) {
                if ((number >>> shift & 255) != 0) {
                    found++;
                }
            }
            return found;
        }

        void add(int number) {
            for (int shift = 24; shift >= 0; shift -= 8) {
                int sign = number >>> shift & 255;
                if (sign != 0 && length < MOST_BYTES) {
                    bytes[length] = sign;
                    length++;
                }
            }
        }
    }

    /** Goes along a tape, clause by clause; where it can't go on, it stays at the byte that is wrong. */
    private abstract static class Reader {
        final Tape tape;
        int at;

        Reader(Tape tape) {
            this.tape = tape;
            this.at = 0;
        }

        /** The first byte at which no such text can go on; NONE: it is one. */
        final int read() {
            at = 0;
            begin();
            for (int i = 0; i < MOST_BYTES; i++) {
                if (!readClause()) {
                    return at;
                }
                if (next() == END) {
                    return isWhole() ? NONE : at;
                }
                if (!takes(';')) {
                    return at;
                }
            }
            return at;
        }

        abstract void begin();

        abstract boolean readClause();

        /** Whether the text may end behind the clauses that were read. */
        abstract boolean isWhole();

        /** The next byte that is no blank; it stays there. */
        final int next() {
            while (at < tape.length && tape.bytes[at] == BLANK) {
                at++;
            }
            return at < tape.length ? tape.bytes[at] : END;
        }

        final boolean takes(int sign) {
            if (next() != sign) {
                return false;
            }
            at++;
            return true;
        }

        final boolean isAtDigit() {
            return at < tape.length && tape.bytes[at] >= '0' && tape.bytes[at] <= '9';
        }

        /** A number of so many digits at most, from here; NONE: there is none, or it has a digit too many. */
        final int number(int mostDigits) {
            if (!isAtDigit()) {
                return NONE;
            }
            int value = 0;
            for (int i = 0; i < mostDigits && isAtDigit(); i++) {
                value = value * 10 + tape.bytes[at] - '0';
                at++;
            }
            return isAtDigit() ? NONE : value;
        }
    }

    /** Reads a tape as a street and keeps what it tells. */
    private static final class StreetReader extends Reader {
        private final int[] pot = new int[STUFFS];
        private final int[][] rows = new int[MOST_HOUSES][HOUSE_ITEM_COUNT];
        private final int[] law = new int[LAW_ITEM_COUNT];
        private int houses;
        private boolean hasPot;
        private boolean hasLaw;

        StreetReader(Tape tape) {
            super(tape);
        }

        void begin() {
            houses = 0;
            hasPot = false;
            hasLaw = false;
            System.arraycopy(POT_USUAL, 0, pot, 0, pot.length);
            System.arraycopy(LAW_USUAL, 0, law, 0, law.length);
            for (int house = 0; house < MOST_HOUSES; house++) {
                System.arraycopy(HOUSE_USUAL, 0, rows[house], 0, HOUSE_ITEM_COUNT);
            }
        }

        boolean isWhole() {
            return houses > 0;
        }

        boolean readClause() {
            int sign = next();
            if (sign == 'p' && !hasPot) {
                at++;
                hasPot = true;
                return readItems(POT_ITEMS, pot, POT_LEAST, POT_MOST);
            }
            if (sign == 'h' && houses < MOST_HOUSES) {
                at++;
                houses++;
                return readItems(HOUSE_ITEMS, rows[houses - 1], HOUSE_LEAST, HOUSE_MOST);
            }
            if (sign == 'l' && !hasLaw) {
                at++;
                hasLaw = true;
                return readItems(LAW_ITEMS, law, LAW_LEAST, LAW_MOST);
            }
            return false;
        }

        /** Reads items up to a byte that is no letter of one; whether that byte may stand there is not asked here. */
        private boolean readItems(String letters, int[] row, int[] least, int[] most) {
            int met = 0;
            for (int i = 0; i <= letters.length(); i++) {
                int item = letters.indexOf((char) next());
                if (item < 0 || item >= row.length || item >= least.length || item >= most.length) {
                    return true;
                }
                if ((met >> item & 1) == 1) {
                    return false;
                }
                met |= 1 << item;
                at++;
                next();
                int value = number(2);
                if (value == NONE) {
                    return false;
                }
                if (!isWithin(value, least[item], most[item])) {
                    at--;
                    return false;
                }
                row[item] = value;
            }
            return true;
        }
    }

    /**
     * Reads a tape as a liking and writes its code: a number each, the sign that works in the lowest 8 bits, an
     * argument above; operands stand ahead of their sign.
     */
    private static final class LikingReader extends Reader {
        private static final int NUMBER_CODE = '0';
        private static final int LETTER_CODE = 'y';
        private static final int SKIP_CODE = '?';
        private static final int ANSWER_CODE = ';';

        private final int[] code = new int[MOST_BYTES];
        private int length;

        LikingReader(Tape tape) {
            super(tape);
        }

        void begin() {
            length = 0;
        }

        boolean isWhole() {
            return true;
        }

        private void write(int sign, int argument) {
            if (length < code.length) {
                code[length] = argument << 8 | sign;
                length++;
            }
        }

        boolean readClause() {
            if (!takes('y') || !takes(':')) {
                return false;
            }
            int sign = next();
            boolean asks = sign == '!' || sign == '(';
            if (asks ? !readUnit(0) : !readSum(0)) {
                return false;
            }
            // only behind its first sum it is told whether a clause asks
            if (!asks && isComparison(next())) {
                asks = true;
                if (!readComparison(0)) {
                    return false;
                }
            }
            int skip = NONE;
            if (asks) {
                if (!readRestOfCondition(0) || !takes('?')) {
                    return false;
                }
                skip = length;
                write(SKIP_CODE, 0);
                if (!readSum(0)) {
                    return false;
                }
            }
            write(ANSWER_CODE, 0);
            skipToHere(skip);
            return true;
        }

        private void skipToHere(int skip) {
            if (skip >= 0 && skip < code.length) {
                code[skip] = length << 8 | SKIP_CODE;
            }
        }

        private static boolean isComparison(int sign) {
            return sign == '=' || sign == '<' || sign == '>';
        }

        private boolean readUnit(int depth) {
            int sign = next();
            if (sign != '!' && sign != '(') {
                return readSum(depth) && readComparison(depth);
            }
            if (depth >= MOST_NESTED) {
                return false;
            }
            at++;
            if (sign == '(') {
                return readUnit(depth + 1) && readRestOfCondition(depth + 1) && takes(')');
            }
            if (!readUnit(depth + 1)) {
                return false;
            }
            write('!', 0);
            return true;
        }

        private boolean readComparison(int depth) {
            int sign = next();
            if (!isComparison(sign)) {
                return false;
            }
            at++;
            if (!readSum(depth)) {
                return false;
            }
            write(sign, 0);
            return true;
        }

        private boolean readRestOfCondition(int depth) {
            if (!readRestOfTruth(depth)) {
                return false;
            }
            for (int i = 0; i < MOST_BYTES && takes('|'); i++) {
                if (!readUnit(depth) || !readRestOfTruth(depth)) {
                    return false;
                }
                write('|', 0);
            }
            return true;
        }

        private boolean readRestOfTruth(int depth) {
            for (int i = 0; i < MOST_BYTES && takes('&'); i++) {
                if (!readUnit(depth)) {
                    return false;
                }
                write('&', 0);
            }
            return true;
        }

        private boolean readSum(int depth) {
            if (!readTerm(depth)) {
                return false;
            }
            int sign = next();
            for (int i = 0; i < MOST_BYTES && (sign == '+' || sign == '-'); i++) {
                at++;
                if (!readTerm(depth)) {
                    return false;
                }
                write(sign, 0);
                sign = next();
            }
            return true;
        }

        private boolean readTerm(int depth) {
            if (!readAtom(depth)) {
                return false;
            }
            int sign = next();
            for (int i = 0; i < MOST_BYTES && (sign == '*' || sign == '/'); i++) {
                at++;
                if (!readAtom(depth)) {
                    return false;
                }
                write(sign, 0);
                sign = next();
            }
            return true;
        }

        private boolean readAtom(int depth) {
            int sign = next();
            if (sign == '[') {
                if (depth >= MOST_NESTED) {
                    return false;
                }
                at++;
                return readSum(depth + 1) && takes(']');
            }
            int letter = LIKING_LETTERS.indexOf((char) sign);
            if (letter >= 0) {
                at++;
                write(LETTER_CODE, letter);
                return true;
            }
            int value = number(4);
            if (value == NONE) {
                return false;
            }
            write(NUMBER_CODE, value);
            return true;
        }
    }

    /** What a meal is worth, by the code that the reader wrote. */
    private static final class Liking {
        private final int[] code = new int[MOST_BYTES];
        private final int[] stack = new int[MOST_BYTES];
        private int length;

        void learn(LikingReader reader) {
            length = reader.length;
            System.arraycopy(reader.code, 0, code, 0, code.length);
        }

        int worth(int[] letters) {
            int size = 0;
            for (int at = 0; at < length; at++) {
                int sign = code[at] & 255;
                int argument = code[at] >> 8;
                if (sign == LikingReader.NUMBER_CODE || sign == LikingReader.LETTER_CODE) {
                    if (size >= stack.length) {
                        return 0;
                    }
                    stack[size] = sign == LikingReader.NUMBER_CODE ? argument : letterOf(letters, argument);
                    size++;
                    continue;
                }
                if (size < 1) {
                    return 0;
                }
                int last = stack[size - 1];
                if (sign == LikingReader.ANSWER_CODE) {
                    return last;
                }
                if (sign == LikingReader.SKIP_CODE) {
                    size--;
                    at = last == 0 ? Math.max(at, argument - 1) : at;
                } else if (sign == '!') {
                    stack[size - 1] = 1 - last;
                } else if (size >= 2) {
                    size--;
                    stack[size - 1] = joined(sign, stack[size - 1], last);
                }
            }
            return 0;
        }

        private static int letterOf(int[] letters, int letter) {
            return letter >= 0 && letter < letters.length ? letters[letter] : 0;
        }

        private static int joined(int sign, int a, int b) {
            switch (sign) {
                case '+':
                    return bounded((long) a + b);
                case '-':
                    return bounded((long) a - b);
                case '*':
                    return bounded((long) a * b);
                case '/':
                    return b == 0 ? 0 : a / b;
                case '=':
                    return a == b ? 1 : 0;
                case '<':
                    return a < b ? 1 : 0;
                case '>':
                    return a > b ? 1 : 0;
                case '&':
                    return a & b;
                default:
                    return a | b;
            }
        }

        private static int bounded(long number) {
            return (int) Math.max(-MOST_WORTH, Math.min(MOST_WORTH, number));
        }
    }

    /** What a street's text tells once for all; no houses: there is no street. */
    private static final class Street {
        private int houses;
        private int grains;
        private int twice;
        private int colder;
        private final int[] pot = new int[STUFFS];
        private final int[] ladle = new int[MOST_HOUSES];
        private final int[] likes = new int[MOST_HOUSES];
        private final int[] bars = new int[MOST_HOUSES];

        void learn(StreetReader reader) {
            houses = reader.houses;
            grains = reader.law[0];
            twice = reader.law[1];
            colder = reader.law[2];
            System.arraycopy(reader.pot, 0, pot, 0, pot.length);
            for (int house = 0; house < MOST_HOUSES; house++) {
                ladle[house] = reader.rows[house][LADLE_ITEM];
                likes[house] = reader.rows[house][LIKES_ITEM];
                bars[house] = reader.rows[house][BARS_ITEM];
            }
        }

        void exchangeLadles(int one, int other) {
            if (isWithin(one, 0, MOST_HOUSES - 1) && isWithin(other, 0, MOST_HOUSES - 1)) {
                int ladleOfOne = ladle[one];
                ladle[one] = ladle[other];
                ladle[other] = ladleOfOne;
            }
        }
    }

    /** What changes from day to day, or is told anew. */
    private static final class State {
        private int day;
        private final int[] stores = new int[MOST_HOUSES * STUFFS];
        private final int[] eaten = new int[MOST_HOUSES];
        private final int[] order = new int[MOST_HOUSES];
        private final int[] puts = new int[MOST_HOUSES];

        void begin(StreetReader reader) {
            day = 0;
            for (int house = 0; house < MOST_HOUSES; house++) {
                System.arraycopy(reader.rows[house], 0, stores, house * STUFFS, STUFFS);
                eaten[house] = 0;
                order[house] = house;
                puts[house] = NOTHING;
            }
        }

        void copy(State other) {
            day = other.day;
            System.arraycopy(other.stores, 0, stores, 0, stores.length);
            System.arraycopy(other.eaten, 0, eaten, 0, eaten.length);
            System.arraycopy(other.order, 0, order, 0, order.length);
            System.arraycopy(other.puts, 0, puts, 0, puts.length);
        }

        private static boolean isStore(int house, int stuff) {
            return house >= 0 && house < MOST_HOUSES && isStuff(stuff);
        }

        int store(int house, int stuff) {
            return isStore(house, stuff) ? stores[house * STUFFS + stuff] : 0;
        }

        void setStore(int house, int stuff, int grains) {
            if (isStore(house, stuff)) {
                stores[house * STUFFS + stuff] = grains;
            }
        }

        /** Nothing is no stuff, so no store has it. */
        boolean hasEnough(int house, int stuff, int grains) {
            return isStore(house, stuff) && stores[house * STUFFS + stuff] >= grains;
        }

        int putOf(int house) {
            return house >= 0 && house < MOST_HOUSES ? puts[house] : NOTHING;
        }

        void usePut(int house, int grains) {
            int stuff = putOf(house);
            if (hasEnough(house, stuff, grains)) {
                setStore(house, stuff, store(house, stuff) - grains);
            }
        }

        int placeOf(int house) {
            for (int place = 0; place < MOST_HOUSES; place++) {
                if (order[place] == house) {
                    return place;
                }
            }
            return NONE;
        }

        void turnOrder(int houses) {
            int front = order[0];
            for (int place = 1; place < houses && place < MOST_HOUSES; place++) {
                order[place - 1] = order[place];
            }
            if (isWithin(houses, 1, MOST_HOUSES)) {
                order[houses - 1] = front;
            }
        }
    }

    /** Stores and meals ahead of the latest days, in a ring. */
    private static final class Past {
        private final int[][] stores = new int[MOST_UNDONE][MOST_HOUSES * STUFFS];
        private final int[][] eaten = new int[MOST_UNDONE][MOST_HOUSES];
        private int size;
        private int next;

        void forget() {
            size = 0;
            next = 0;
        }

        void keep(State state) {
            if (next < 0 || next >= MOST_UNDONE) {
                next = 0;
            }
            System.arraycopy(state.stores, 0, stores[next], 0, state.stores.length);
            System.arraycopy(state.eaten, 0, eaten[next], 0, state.eaten.length);
            next++;
            size = Math.min(size + 1, MOST_UNDONE);
        }

        boolean restore(State state) {
            if (size == 0) {
                return false;
            }
            next = next > 0 ? next - 1 : MOST_UNDONE - 1;
            size--;
            System.arraycopy(stores[next], 0, state.stores, 0, state.stores.length);
            System.arraycopy(eaten[next], 0, state.eaten, 0, state.eaten.length);
            state.day--;
            return true;
        }
    }

    /** A noon on paper: it changes no state; what it found stands until the next one. */
    private static final class Noon {
        private final Street street;
        /** By place: the pot as the house at that place finds it. */
        private final int[][] pot = new int[MOST_HOUSES + 1][POT_STUFFS];
        /** By house: what it takes. */
        private final int[][] taken = new int[MOST_HOUSES][POT_STUFFS];
        private final int[] placeOf = new int[MOST_HOUSES];
        private final int[] strangerTaken = new int[POT_STUFFS];
        private final int[] letters = new int[6];
        private Liking liking;
        private int day;
        private int breaker;
        private int poisoner;
        private int poisonGrains;
        private int strangerPlace;
        private int strangerLadle;

        Noon(Street street) {
            this.street = street;
            this.liking = null;
            this.breaker = NONE;
            this.poisoner = NONE;
            this.strangerPlace = NONE;
        }

        void run(State state) {
            poisoner = NONE;
            strangerPlace = NONE;
            goDownTheStreet(state);
        }

        void runPoisoned(State state, int from, int grains) {
            poisoner = from;
            poisonGrains = grains;
            strangerPlace = NONE;
            goDownTheStreet(state);
        }

        void runWithStranger(State state, int place, int ladle) {
            poisoner = NONE;
            strangerPlace = place;
            strangerLadle = ladle;
            goDownTheStreet(state);
        }

        private void goDownTheStreet(State state) {
            begin(state.day);
            int ahead = 0;
            for (int place = 0; place < street.houses; place++) {
                int house = state.order[place];
                if (place == strangerPlace) {
                    scoop(pot[place], strangerLadle, strangerTaken, pot[place]);
                }
                serve(place, house);
                if (isLast(place)) {
                    return;
                }
                int stuff = state.putOf(house);
                if (state.hasEnough(house, stuff, street.grains)) {
                    if (breaker == NONE && breaksLaw(ahead, stuff)) {
                        breaker = house;
                    }
                    ahead |= 1 << stuff;
                    pour(place, stuff, street.grains);
                }
                if (house == poisoner) {
                    pour(place, POISON, poisonGrains);
                }
            }
        }

        void begin(int dayOfNoon) {
            day = dayOfNoon;
            breaker = NONE;
            int times = (day + 1) % WEEK == 0 ? 2 : 1;
            for (int stuff = 0; stuff < STUFFS; stuff++) {
                pot[0][stuff] = times * street.pot[stuff];
            }
            pot[0][POISON] = 0;
        }

        boolean isLast(int place) {
            return place >= street.houses - 1;
        }

        /** Ahead: a bit for each stuff that was put in by one ahead. */
        boolean breaksLaw(int ahead, int stuff) {
            return street.twice == 1 && (ahead >> stuff & 1) == 1;
        }

        /** A house takes what it gets at a place; the rest is the pot of the next place. */
        void serve(int place, int house) {
            if (place < 0 || place >= MOST_HOUSES || house < 0 || house >= MOST_HOUSES) {
                return;
            }
            placeOf[house] = place;
            int ladle = isLast(place) ? GREATEST_INT : street.ladle[house];
            scoop(pot[place], ladle, taken[house], pot[place + 1]);
        }

        private static void scoop(int[] from, int ladle, int[] into, int[] rest) {
            int all = 0;
            for (int stuff = 0; stuff < POT_STUFFS; stuff++) {
                all += from[stuff];
            }
            boolean takesAll = all < 1 || all <= ladle;
            for (int stuff = 0; stuff < POT_STUFFS; stuff++) {
                into[stuff] = takesAll ? from[stuff] : from[stuff] * ladle / all;
                rest[stuff] = from[stuff] - into[stuff];
            }
        }

        /** Grains come into the pot behind the house at a place. */
        void pour(int place, int stuff, int grains) {
            if (place >= 0 && place < MOST_HOUSES && stuff >= 0 && stuff < POT_STUFFS) {
                pot[place + 1][stuff] += grains;
            }
        }

        int got(int house, int stuff) {
            boolean is = house >= 0 && house < MOST_HOUSES && stuff >= 0 && stuff < POT_STUFFS;
            return is ? taken[house][stuff] : 0;
        }

        int heatOf(int house) {
            boolean is = house >= 0 && house < MOST_HOUSES;
            return is ? Math.max(0, 100 - street.colder * placeOf[house]) : 0;
        }

        /** Without the poison. */
        int grainsOf(int house) {
            int all = 0;
            for (int stuff = 0; stuff < STUFFS; stuff++) {
                all += got(house, stuff);
            }
            return all;
        }

        int mealOf(int house) {
            if (house < 0 || house >= MOST_HOUSES) {
                return 0;
            }
            int liked = got(house, street.likes[house]);
            int barred = isStuff(street.bars[house]) ? got(house, street.bars[house]) : 0;
            int all = grainsOf(house);
            if (liking == null) {
                return all + liked - 3 * barred;
            }
            letters[0] = liked;
            letters[1] = barred;
            letters[2] = all;
            letters[3] = heatOf(house);
            letters[4] = placeOf[house];
            letters[5] = day;
            return liking.worth(letters);
        }

        int mealsTogether() {
            int together = 0;
            for (int house = 0; house < street.houses; house++) {
                together += mealOf(house);
            }
            return together;
        }

        int leastMeal() {
            int least = GREATEST_INT;
            for (int house = 0; house < street.houses; house++) {
                least = Math.min(least, mealOf(house));
            }
            return least;
        }

        int poisonOfAll() {
            int all = 0;
            for (int house = 0; house < street.houses; house++) {
                all += got(house, POISON);
            }
            return all;
        }

        /** A bit for each house that got so much poison or more. */
        int poisoned(int least) {
            int set = 0;
            for (int house = 0; house < street.houses; house++) {
                if (got(house, POISON) >= least) {
                    set |= 1 << house;
                }
            }
            return set;
        }

        int strangerGrains() {
            int all = 0;
            for (int stuff = 0; stuff < STUFFS; stuff++) {
                all += strangerTaken[stuff];
            }
            return all;
        }
    }

    /** Looks for the best puts or order, place by place, so that what is ahead is reckoned once for all that is behind. */
    private static final class Best {
        private final Street street;
        private final State state;
        private final Noon noon;
        private int wish;
        private int digits;
        private int value;

        Best(Street street, State state, Noon noon) {
            this.street = street;
            this.state = state;
            this.noon = noon;
            this.digits = NONE;
        }

        void findPuts(int wished) {
            begin(wished);
            tryPuts(0, noMeal(), 0, 0);
        }

        void findOrder(int wished) {
            begin(wished);
            tryOrders(0, noMeal(), 0, 0);
        }

        private void begin(int wished) {
            wish = wished;
            digits = NONE;
            value = HIDDEN;
            noon.begin(state.day);
        }

        private int noMeal() {
            return wish == TOGETHER ? 0 : GREATEST_INT;
        }

        private int withMeal(int soFar, int meal) {
            return wish == TOGETHER ? soFar + meal : Math.min(soFar, meal);
        }

        private void consider(int found, int foundDigits) {
            if (digits == NONE || found > value || found == value && foundDigits < digits) {
                value = found;
                digits = foundDigits;
            }
        }

        private void tryPuts(int place, int soFar, int row, int ahead) {
            if (place < 0 || place >= street.houses) {
                return;
            }
            int house = state.order[place];
            noon.serve(place, house);
            int meals = withMeal(soFar, noon.mealOf(house));
            int unit = unitOf(house);
            if (noon.isLast(place)) {
                consider(meals, row + unit * leastPut(house));
                return;
            }
            tryPuts(place + 1, meals, row + unit * NOTHING, ahead);
            for (int stuff = 0; stuff < STUFFS; stuff++) {
                if (state.hasEnough(house, stuff, street.grains) && !noon.breaksLaw(ahead, stuff)) {
                    noon.pour(place, stuff, street.grains);
                    tryPuts(place + 1, meals, row + unit * stuff, ahead | 1 << stuff);
                    noon.pour(place, stuff, -street.grains);
                }
            }
        }

        private int unitOf(int house) {
            int power = street.houses - 1 - house;
            return power >= 0 && power < TENS.length ? TENS[power] : 0;
        }

        /** The last one puts nothing in, so all its puts are alike and the least digit is best. */
        private int leastPut(int house) {
            for (int stuff = 0; stuff < STUFFS; stuff++) {
                if (state.hasEnough(house, stuff, street.grains)) {
                    return stuff;
                }
            }
            return NOTHING;
        }

        private void tryOrders(int place, int soFar, int row, int served) {
            if (place < 0 || place >= street.houses) {
                return;
            }
            for (int house = 0; house < street.houses; house++) {
                if ((served >> house & 1) == 1) {
                    continue;
                }
                noon.serve(place, house);
                int meals = withMeal(soFar, noon.mealOf(house));
                if (noon.isLast(place)) {
                    consider(meals, row * 10 + house);
                    continue;
                }
                int stuff = state.putOf(house);
                if (state.hasEnough(house, stuff, street.grains)) {
                    noon.pour(place, stuff, street.grains);
                }
                tryOrders(place + 1, meals, row * 10 + house, served | 1 << house);
            }
        }
    }
}
