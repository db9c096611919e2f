import java.util.ArrayDeque;
import java.util.ArrayList;
import java.util.Arrays;
import java.util.Collections;
import java.util.Deque;
import java.util.List;
import java.util.NoSuchElementException;

/** The document once more, in the plainest way: every question runs whole noons, every best one tries all. */
final class Model {
    static final int NONE = -1;
    static final int HIDDEN = -100000000;
    private static final Grammar GRAMMAR = new Grammar();

    private record Snapshot(int day, int[][] stores, int[] eaten, List<Integer> order, int[] puts) {
    }

    private static final class Noon {
        int[][] taken;
        int[] heat;
        int[] place;
        int[] meal;
        int[] strangerTook = new int[6];
        int breaker = NONE;
    }

    /** What a noon may have beside the state that is. */
    private record Extra(int poisoner, int poison, int strangerPlace, int strangerLadle) {
    }

    private static final Extra PLAIN = new Extra(NONE, 0, NONE, 0);

    private String tape = "";
    private final List<String> likings = new ArrayList<>();
    private int holding = NONE;
    private int n = 0;
    private int[] pot = new int[5];
    private int[] law = new int[3];
    private int[][] stores = new int[0][];
    private int[] ladle = new int[0];
    private int[] likes = new int[0];
    private int[] bars = new int[0];
    private int day = 0;
    private int[] eaten = new int[0];
    private List<Integer> order = new ArrayList<>();
    private int[] puts = new int[0];
    private final Deque<Snapshot> past = new ArrayDeque<>();
    private Snapshot image = null;

    // ---- texts

    int feed(int... numbers) {
        StringBuilder more = new StringBuilder();
        for (int number : numbers) {
            for (int b : new int[] {number >>> 24, number >>> 16 & 255, number >>> 8 & 255, number & 255}) {
                if (b != 0) {
                    more.append((char) b);
                }
            }
        }
        if (tape.length() + more.length() > 160) {
            return NONE;
        }
        tape += more;
        return tape.length();
    }

    boolean end(int k) {
        if (k < 0 || k > tape.length()) {
            return false;
        }
        tape = tape.substring(0, k);
        return true;
    }

    int fault(int sort) {
        return sort == 0 ? streetFault(tape) : sort == 1 ? GRAMMAR.fault(tape) : -2;
    }

    static int streetFault(String t) {
        String clause = "";
        String met = "";
        int houses = 0;
        int i = 0;
        while (true) {
            while (i < t.length() && t.charAt(i) == ' ') {
                i++;
            }
            if (i == t.length()) {
                return clause.isEmpty() || houses == 0 ? i : NONE;
            }
            char c = t.charAt(i);
            if (clause.isEmpty()) {
                boolean may = c == 'p' && !met.contains("p") || c == 'l' && !met.contains("l") || c == 'h' && houses < 6;
                if (!may) {
                    return i;
                }
                houses += c == 'h' ? 1 : 0;
                clause = "" + c;
                met += c == 'h' ? "" : c;
                i++;
                continue;
            }
            if (c == ';') {
                clause = "";
                i++;
                continue;
            }
            String letters = clause.charAt(0) == 'p' ? "abcde" : clause.charAt(0) == 'h' ? "abcdelkn" : "gtc";
            if (letters.indexOf(c) < 0 || clause.indexOf(c, 1) > 0) {
                return i;
            }
            int most = clause.charAt(0) == 'l' ? (c == 'g' ? 30 : c == 't' ? 1 : 20) : c == 'k' ? 4 : c == 'n' ? 5 : 99;
            int least = clause.charAt(0) == 'l' && c == 'g' ? 1 : 0;
            clause += c;
            i++;
            while (i < t.length() && t.charAt(i) == ' ') {
                i++;
            }
            int from = i;
            while (i < t.length() && t.charAt(i) >= '0' && t.charAt(i) <= '9') {
                i++;
            }
            if (i == from) {
                return i;
            }
            if (i - from > 2) {
                return from + 2;
            }
            int value = Integer.parseInt(t.substring(from, i));
            if (value < least || value > most) {
                return i - 1;
            }
        }
    }

    private static int item(String clause, char letter, int usual) {
        int at = clause.indexOf(letter, 1);
        return at < 0 ? usual : Integer.parseInt(clause.substring(at + 1).split("[a-z]")[0]);
    }

    int text(int sort) {
        if (sort == 1 && likings.size() < 4 && fault(1) == NONE) {
            likings.add(tape.replace(" ", ""));
            tape = "";
            return likings.size() - 1;
        }
        if (sort != 0 || fault(0) != NONE) {
            return NONE;
        }
        List<String> rows = new ArrayList<>();
        pot = new int[] {50, 0, 0, 0, 0};
        law = new int[] {10, 1, 5};
        for (String clause : tape.replace(" ", "").split(";")) {
            if (clause.charAt(0) == 'p') {
                for (int s = 0; s < 5; s++) {
                    pot[s] = item(clause, (char) ('a' + s), s == 0 ? 50 : 0);
                }
            } else if (clause.charAt(0) == 'l') {
                law = new int[] {item(clause, 'g', 10), item(clause, 't', 1), item(clause, 'c', 5)};
            } else {
                rows.add(clause);
            }
        }
        tape = "";
        n = rows.size();
        stores = new int[n][5];
        ladle = new int[n];
        likes = new int[n];
        bars = new int[n];
        order = new ArrayList<>();
        for (int h = 0; h < n; h++) {
            for (int s = 0; s < 5; s++) {
                stores[h][s] = item(rows.get(h), (char) ('a' + s), 0);
            }
            ladle[h] = item(rows.get(h), 'l', 20);
            likes[h] = item(rows.get(h), 'k', 0);
            bars[h] = item(rows.get(h), 'n', 5);
            order.add(h);
        }
        puts = new int[n];
        Arrays.fill(puts, 9);
        eaten = new int[n];
        day = 0;
        past.clear();
        image = null;
        holding = NONE;
        return n;
    }

    // ---- the worth of a liking, by splitting its text

    private static int lastAtTop(String t, String signs) {
        int depth = 0;
        for (int i = t.length() - 1; i >= 0; i--) {
            char c = t.charAt(i);
            depth += c == ')' || c == ']' ? 1 : c == '(' || c == '[' ? -1 : 0;
            if (depth == 0 && signs.indexOf(c) >= 0) {
                return i;
            }
        }
        return -1;
    }

    private static long sum(String t, int[] v) {
        int at = lastAtTop(t, "+-");
        if (at < 0) {
            at = lastAtTop(t, "*/");
        }
        if (at >= 0) {
            long a = sum(t.substring(0, at), v);
            long b = sum(t.substring(at + 1), v);
            long r = switch (t.charAt(at)) {
                case '+' -> a + b;
                case '-' -> a - b;
                case '*' -> a * b;
                default -> b == 0 ? 0 : a / b;
            };
            return r > 1000000 ? 1000000 : r < -1000000 ? -1000000 : r;
        }
        if (t.charAt(0) == '[') {
            return sum(t.substring(1, t.length() - 1), v);
        }
        int letter = "lnshit".indexOf(t.charAt(0));
        return letter >= 0 ? v[letter] : Long.parseLong(t);
    }

    private static boolean holds(String t, int[] v) {
        int at = lastAtTop(t, "|");
        if (at >= 0) {
            return holds(t.substring(0, at), v) || holds(t.substring(at + 1), v);
        }
        at = lastAtTop(t, "&");
        if (at >= 0) {
            return holds(t.substring(0, at), v) && holds(t.substring(at + 1), v);
        }
        if (t.charAt(0) == '!') {
            return !holds(t.substring(1), v);
        }
        if (t.charAt(0) == '(') {
            return holds(t.substring(1, t.length() - 1), v);
        }
        at = lastAtTop(t, "=<>");
        long a = sum(t.substring(0, at), v);
        long b = sum(t.substring(at + 1), v);
        return t.charAt(at) == '=' ? a == b : t.charAt(at) == '<' ? a < b : a > b;
    }

    static int worth(String liking, int... v) {
        for (String clause : liking.split(";")) {
            String body = clause.substring(2);
            int ask = body.indexOf('?');
            if (ask < 0 || holds(body.substring(0, ask), v)) {
                return (int) sum(body.substring(ask + 1), v);
            }
        }
        return 0;
    }

    // ---- a noon

    private static int[] scoop(int[] pot, int ladle) {
        int all = Arrays.stream(pot).sum();
        return all <= ladle ? pot.clone() : Arrays.stream(pot).map(g -> g * ladle / all).toArray();
    }

    private static void less(int[] pot, int[] taken) {
        for (int s = 0; s < 6; s++) {
            pot[s] -= taken[s];
        }
    }

    private boolean putsIn(int h, int put) {
        return put != 9 && stores[h][put] >= law[0];
    }

    private Noon noon(int onDay, List<Integer> inOrder, int[] withPuts, int[] withLadles, Extra extra) {
        Noon noon = new Noon();
        noon.taken = new int[n][];
        noon.heat = new int[n];
        noon.place = new int[n];
        noon.meal = new int[n];
        int[] inPot = new int[6];
        for (int s = 0; s < 5; s++) {
            inPot[s] = pot[s] * (onDay % 7 == 6 ? 2 : 1);
        }
        int heat = 100;
        List<Integer> putAhead = new ArrayList<>();
        for (int place = 0; place < n; place++) {
            int h = inOrder.get(place);
            if (place == extra.strangerPlace) {
                noon.strangerTook = scoop(inPot, extra.strangerLadle);
                less(inPot, noon.strangerTook);
            }
            boolean last = place + 1 == n;
            noon.taken[h] = last ? inPot.clone() : scoop(inPot, withLadles[h]);
            less(inPot, noon.taken[h]);
            noon.heat[h] = heat;
            noon.place[h] = place;
            noon.meal[h] = mealOf(noon, h, onDay);
            if (!last && putsIn(h, withPuts[h])) {
                if (law[1] == 1 && putAhead.contains(withPuts[h]) && noon.breaker == NONE) {
                    noon.breaker = h;
                }
                putAhead.add(withPuts[h]);
                inPot[withPuts[h]] += law[0];
            }
            if (!last && h == extra.poisoner) {
                inPot[5] += extra.poison;
            }
            heat = Math.max(0, heat - law[2]);
        }
        return noon;
    }

    private int mealOf(Noon noon, int h, int onDay) {
        int[] t = noon.taken[h];
        int s = t[0] + t[1] + t[2] + t[3] + t[4];
        int l = t[likes[h]];
        int b = bars[h] == 5 ? 0 : t[bars[h]];
        return holding == NONE ? s + l - 3 * b
            : worth(likings.get(holding), l, b, s, noon.heat[h], noon.place[h], onDay);
    }

    private Noon noon() {
        return noon(day, order, puts, ladle, PLAIN);
    }

    private boolean isHouse(int h) {
        return h >= 0 && h < n;
    }

    private static boolean in(int x, int a, int b) {
        return a <= x && x <= b;
    }

    // ---- the face

    int house(int h, int what) {
        if (!isHouse(h) || !in(what, 0, 9)) {
            throw new NoSuchElementException();
        }
        return what < 5 ? stores[h][what]
            : new int[] {ladle[h], likes[h], bars[h], puts[h], order.indexOf(h)}[what - 5];
    }

    boolean liking(int k) {
        if (n == 0 || k != NONE && !in(k, 0, likings.size() - 1)) {
            return false;
        }
        holding = k;
        return true;
    }

    boolean order(int digits) {
        List<List<Integer>> all = new ArrayList<>();
        permutations(new ArrayList<>(), all);
        for (List<Integer> one : all) {
            if (n > 0 && digitsOf(one) == digits) {
                order = new ArrayList<>(one);
                return true;
            }
        }
        return false;
    }

    private static int digitsOf(List<Integer> row) {
        int digits = 0;
        for (int d : row) {
            digits = 10 * digits + d;
        }
        return digits;
    }

    private void permutations(List<Integer> begun, List<List<Integer>> all) {
        if (begun.size() == n) {
            all.add(new ArrayList<>(begun));
            return;
        }
        for (int h = 0; h < n; h++) {
            if (!begun.contains(h)) {
                begun.add(h);
                permutations(begun, all);
                begun.remove(begun.size() - 1);
            }
        }
    }

    boolean put(int h, int stuff) {
        if (!isHouse(h) || !in(stuff, 0, 4) && stuff != 9) {
            return false;
        }
        puts[h] = stuff;
        return true;
    }

    boolean fill(int h, int stuff, int grains) {
        if (!isHouse(h) || !in(stuff, 0, 4) || !in(grains, 0, 99)) {
            return false;
        }
        stores[h][stuff] = grains;
        return true;
    }

    int meal(int h) {
        return isHouse(h) ? noon().meal[h] : HIDDEN;
    }

    int share(int h, int stuff) {
        return isHouse(h) && in(stuff, 0, 4) ? noon().taken[h][stuff] : NONE;
    }

    int heat(int h) {
        return isHouse(h) ? noon().heat[h] : NONE;
    }

    int first() {
        return n == 0 ? NONE : noon().breaker;
    }

    private Snapshot snapshot() {
        int[][] copy = new int[n][];
        for (int h = 0; h < n; h++) {
            copy[h] = stores[h].clone();
        }
        return new Snapshot(day, copy, eaten.clone(), new ArrayList<>(order), puts.clone());
    }

    private void oneDay() {
        past.addLast(snapshot());
        if (past.size() > 30) {
            past.removeFirst();
        }
        Noon noon = noon();
        for (int h = 0; h < n; h++) {
            eaten[h] += noon.meal[h];
        }
        for (int h : order.subList(0, n - 1)) {
            if (putsIn(h, puts[h])) {
                stores[h][puts[h]] -= law[0];
            }
        }
        day++;
    }

    int days(int k) {
        if (n == 0 || !in(k, 1, 30) || day + k > 999) {
            return NONE;
        }
        for (int i = 0; i < k; i++) {
            oneDay();
        }
        return day;
    }

    int undo() {
        if (past.isEmpty()) {
            return NONE;
        }
        Snapshot was = past.removeLast();
        stores = was.stores;
        eaten = was.eaten;
        day = was.day;
        return day;
    }

    int eaten(int h) {
        return isHouse(h) ? eaten[h] : HIDDEN;
    }

    private static int wished(Noon noon, int wish) {
        return wish == 0 ? Arrays.stream(noon.meal).sum() : Arrays.stream(noon.meal).min().getAsInt();
    }

    int puts(int wish, int what) {
        if (!in(n, 1, 5) || !in(wish, 0, 1) || !in(what, 0, 1)) {
            return HIDDEN;
        }
        int bestDigits = NONE;
        int bestValue = 0;
        for (int digits = 0; digits < Math.pow(10, n); digits++) {
            int[] row = new int[n];
            boolean may = true;
            int rest = digits;
            for (int h = n - 1; h >= 0; h--) {
                row[h] = rest % 10;
                rest /= 10;
                may = may && (row[h] == 9 || row[h] < 5 && stores[h][row[h]] >= law[0]);
            }
            if (!may) {
                continue;
            }
            Noon noon = noon(day, order, row, ladle, PLAIN);
            if (noon.breaker == NONE && (bestDigits == NONE || wished(noon, wish) > bestValue)) {
                bestDigits = digits;
                bestValue = wished(noon, wish);
            }
        }
        return what == 0 ? bestDigits : bestValue;
    }

    int orders(int wish, int what) {
        if (n == 0 || !in(wish, 0, 1) || !in(what, 0, 1)) {
            return HIDDEN;
        }
        List<List<Integer>> all = new ArrayList<>();
        permutations(new ArrayList<>(), all);
        int bestDigits = NONE;
        int bestValue = 0;
        for (List<Integer> one : all) {
            int value = wished(noon(day, one, puts, ladle, PLAIN), wish);
            if (bestDigits == NONE || value > bestValue || value == bestValue && digitsOf(one) < bestDigits) {
                bestDigits = digitsOf(one);
                bestValue = value;
            }
        }
        return what == 0 ? bestDigits : bestValue;
    }

    int bestFor(int h, int other, int what) {
        if (!isHouse(h) || !isHouse(other) || h == other || !in(what, 0, 1)) {
            return HIDDEN;
        }
        int bestPut = NONE;
        int bestMeal = 0;
        for (int put : new int[] {0, 1, 2, 3, 4, 9}) {
            int[] row = puts.clone();
            row[h] = put;
            int meal = noon(day, order, row, ladle, PLAIN).meal[other];
            if (bestPut == NONE || meal > bestMeal) {
                bestPut = put;
                bestMeal = meal;
            }
        }
        return what == 0 ? bestPut : bestMeal;
    }

    int about(int h, int k) {
        if (n == 0 || h != NONE && !isHouse(h) || !in(k, 1, 30)) {
            return HIDDEN;
        }
        int[] all = new int[n];
        for (int i = 0; i < k; i++) {
            List<Integer> turned = new ArrayList<>(order);
            Collections.rotate(turned, -i);
            Noon noon = noon(day + i, turned, puts, ladle, PLAIN);
            for (int x = 0; x < n; x++) {
                all[x] += noon.meal[x];
            }
        }
        if (h != NONE) {
            return all[h];
        }
        int least = Arrays.stream(all).min().getAsInt();
        for (int x = 0; ; x++) {
            if (all[x] == least) {
                return x;
            }
        }
    }

    private Noon poisoned(int from, int grains) {
        return noon(day, order, puts, ladle, new Extra(from, grains, NONE, 0));
    }

    int poison(int from, int grains, int h) {
        return isHouse(from) && in(grains, 1, 99) && isHouse(h) ? poisoned(from, grains).taken[h][5] : NONE;
    }

    int guilty(int grains, int least, int set) {
        if (n == 0 || !in(grains, 1, 99) || !in(least, 1, 99) || !in(set, 0, (1 << n) - 1)) {
            return NONE;
        }
        int bits = 0;
        for (int from = 0; from < n; from++) {
            Noon noon = poisoned(from, grains);
            boolean just = true;
            for (int h = 0; h < n; h++) {
                just = just && noon.taken[h][5] >= least == ((set >> h) % 2 == 1);
            }
            bits += just ? 1 << from : 0;
        }
        return bits;
    }

    int harm(int h, int least, int what) {
        if (!isHouse(h) || !in(least, 1, 99) || !in(what, 0, 1)) {
            return NONE;
        }
        List<int[]> ways = new ArrayList<>();
        for (int from = 0; from < n; from++) {
            for (int grains = 1; grains <= 99; grains++) {
                Noon noon = poisoned(from, grains);
                int others = 0;
                for (int x = 0; x < n; x++) {
                    others += x == h ? 0 : noon.taken[x][5];
                }
                if (noon.taken[h][5] >= least) {
                    ways.add(new int[] {others, grains, from});
                }
            }
        }
        if (ways.isEmpty()) {
            return NONE;
        }
        int[] best = Collections.min(ways, Arrays::compare);
        return what == 0 ? 100 * best[2] + best[1] : best[0];
    }

    int stranger(int place, int ladleOfIt, int what) {
        if (!in(place, 0, n - 1) || !in(ladleOfIt, 0, 99) || !in(what, 0, 1)) {
            return HIDDEN;
        }
        Noon with = noon(day, order, puts, ladle, new Extra(NONE, 0, place, ladleOfIt));
        return what == 0 ? Arrays.stream(with.strangerTook).sum() : wished(noon(), 0) - wished(with, 0);
    }

    int exchange(int what) {
        if (n == 0 || !in(what, 0, 1)) {
            return HIDDEN;
        }
        int best = NONE;
        int bestMeal = wished(noon(), 1);
        for (int a = 0; a < n; a++) {
            for (int b = a + 1; b < n; b++) {
                int[] ladles = ladle.clone();
                ladles[a] = ladle[b];
                ladles[b] = ladle[a];
                int meal = wished(noon(day, order, puts, ladles, PLAIN), 1);
                if (meal > bestMeal) {
                    bestMeal = meal;
                    best = 10 * a + b;
                }
            }
        }
        return what == 0 ? best : bestMeal;
    }

    int lasts(int h) {
        if (!isHouse(h) || puts[h] == 9) {
            return NONE;
        }
        int store = stores[h][puts[h]];
        for (int noons = 0; noons < 99; noons++) {
            if (store < law[0]) {
                return noons;
            }
            store -= order.indexOf(h) == n - 1 ? 0 : law[0];
        }
        return 99;
    }

    int left() {
        return n == 0 ? NONE : Arrays.stream(noon().taken[order.get(n - 1)]).sum();
    }

    int drawn(int k, long seed) {
        if (n == 0 || !in(k, 1, 30) || day + k > 999) {
            return NONE;
        }
        long x = seed;
        for (int i = 0; i < k; i++) {
            for (int h = 0; h < n; h++) {
                x = x * 6364136223846793005L + 1442695040888963407L;
                int draw = (int) Long.remainderUnsigned(x >>> 33, 6);
                puts[h] = draw == 5 ? 9 : draw;
            }
            oneDay();
        }
        return day;
    }

    int image() {
        if (n == 0) {
            return NONE;
        }
        image = snapshot();
        return day;
    }

    int back() {
        if (image == null) {
            return NONE;
        }
        Snapshot was = image;
        day = was.day;
        stores = was.stores;
        eaten = was.eaten;
        order = was.order;
        puts = was.puts;
        image = snapshot();
        past.clear();
        return day;
    }

    int count(int what) {
        return switch (what) {
            case 0 -> n;
            case 1 -> likings.size();
            case 2 -> tape.length();
            case 3 -> day;
            case 4 -> holding;
            case 5, 6, 7 -> law[what - 5];
            case 8 -> past.size();
            case 9 -> digitsOf(order);
            case 10 -> digitsOf(Arrays.stream(puts).boxed().toList());
            default -> HIDDEN;
        };
    }
}
