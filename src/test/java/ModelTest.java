import java.util.NoSuchElementException;
import java.util.Random;

/** Runs of drawn calls, each on the class and on the model: all answers alike, and all that can be asked of the state. */
public final class ModelTest {
    private static final int RUNS = 600;
    private static final int CALLS = 130;
    private final Random random;
    private final NeighbourSoup soup = new NeighbourSoup();
    private final Model model = new Model();
    private final StringBuilder told = new StringBuilder();
    private int houses = 0;
    private boolean same = true;

    private ModelTest(long seed) {
        random = new Random(seed);
    }

    public static void main(String[] args) {
        int wrong = 0;
        for (int run = 0; run < RUNS; run++) {
            wrong += new ModelTest(run).run() ? 0 : 1;
        }
        wrong += faultsOfDrawnTexts();
        System.out.println(RUNS + " runs beside the model, " + wrong + " not alike");
        if (wrong != 0) {
            System.exit(1);
        }
    }

    /** Many texts with one byte or two of them changed, read both ways. */
    private static int faultsOfDrawnTexts() {
        int wrong = 0;
        ModelTest source = new ModelTest(4711);
        for (int i = 0; i < 6000; i++) {
            int sort = i % 3 == 0 ? 0 : 1;
            String text = source.spoiled(sort == 0 ? source.street() : source.liking());
            NeighbourSoup soup = new NeighbourSoup();
            Model model = new Model();
            Check.feed(soup, text);
            for (int at = 0; at < text.length(); at += 20) {
                model.feed(Check.numbers(text.substring(at, Math.min(text.length(), at + 20))));
            }
            if (soup.fault(sort) != model.fault(sort)) {
                wrong++;
                System.out.println("fault(" + sort + ") of '" + text + "' answered " + soup.fault(sort)
                    + ", due is " + model.fault(sort));
            }
        }
        return wrong;
    }

    private boolean run() {
        for (int i = 0; i < CALLS && same; i++) {
            call();
            lookAtState();
        }
        if (!same) {
            System.out.println(told);
        }
        return same;
    }

    private void due(String call, long got, long want) {
        told.append(call).append(" = ").append(got).append('\n');
        if (got != want && same) {
            same = false;
            told.append("due is ").append(want).append('\n');
        }
    }

    private int pick(int bound) {
        return random.nextInt(bound);
    }

    /** Mostly within 0 .. most, now and then beside it. */
    private int near(int most) {
        int at = pick(40);
        return at == 0 ? -1 : at == 1 ? most + 1 : at == 2 ? random.nextInt() : pick(Math.max(1, most + 1));
    }

    private int house() {
        return near(houses - 1);
    }

    private int choice() {
        return near(1);
    }

    private String blanks() {
        return pick(12) == 0 ? " ".repeat(1 + pick(2)) : "";
    }

    String street() {
        StringBuilder text = new StringBuilder(blanks());
        int n = 1 + pick(6);
        int potAt = pick(n + 2);
        int lawAt = pick(n + 2);
        for (int h = 0; h <= n; h++) {
            if (potAt == h) {
                clause(text, "p", "abcde", new int[] {99, 99, 99, 99, 99}, 2);
            }
            if (lawAt == h) {
                clause(text, "l", "gtc", new int[] {30, 1, 20}, 1);
            }
            if (h < n) {
                clause(text, "h", "abcdelkn", new int[] {99, 99, 99, 99, 99, 60, 4, 5}, 3);
            }
        }
        return text.length() > 160 ? street() : text.toString();
    }

    private void clause(StringBuilder text, String kind, String letters, int[] most, int rare) {
        if (!text.toString().isBlank()) {
            text.append(';').append(blanks());
        }
        text.append(kind).append(blanks());
        for (int i = 0; i < letters.length(); i++) {
            if (pick(rare + 1) == 0 || letters.charAt(i) == 'l' && pick(3) > 0) {
                int value = pick(most[i] + 1);
                value = letters.charAt(i) == 'g' ? Math.max(1, value) : value;
                text.append(letters.charAt(i)).append(blanks());
                text.append(value < 10 && pick(5) == 0 ? "0" : "").append(value).append(blanks());
            }
        }
    }

    String liking() {
        StringBuilder text = new StringBuilder(blanks());
        int clauses = 1 + pick(3);
        for (int i = 0; i < clauses; i++) {
            text.append(i == 0 ? "" : ";" + blanks()).append("y").append(blanks()).append(":").append(blanks());
            if (pick(2) == 0) {
                text.append(condition(0)).append("?").append(blanks());
            }
            text.append(sum(0));
        }
        return text.length() > 160 ? liking() : text.toString();
    }

    private String condition(int depth) {
        String text = unit(depth);
        for (int i = pick(3); i > 1; i--) {
            text += (pick(2) == 0 ? "|" : "&") + blanks() + unit(depth);
        }
        return text;
    }

    private String unit(int depth) {
        int kind = depth < 6 ? pick(6) : 5;
        if (kind == 0) {
            return "!" + blanks() + unit(depth + 1);
        }
        if (kind == 1) {
            return "(" + blanks() + condition(depth + 1) + ")" + blanks();
        }
        return sum(depth) + "=<>".charAt(pick(3)) + blanks() + sum(depth);
    }

    private String sum(int depth) {
        String text = atom(depth);
        for (int i = pick(3); i > 0; i--) {
            text += "+-*/*".charAt(pick(5)) + blanks() + atom(depth);
        }
        return text;
    }

    private String atom(int depth) {
        if (depth < 6 && pick(6) == 0) {
            return "[" + blanks() + sum(depth + 1) + "]" + blanks();
        }
        String atom = pick(2) == 0 ? "" + "lnshit".charAt(pick(6)) : "" + pick((int) Math.pow(10, 1 + pick(4)));
        return atom + blanks();
    }

    private String spoiled(String text) {
        StringBuilder spoiled = new StringBuilder(text);
        for (int i = pick(3); i > 0; i--) {
            String signs = "phlabcdekngtcy:?|&!()[]=<>+-*/lnshit0123456789 ;xA" + (char) 200;
            char sign = signs.charAt(pick(signs.length()));
            int at = pick(spoiled.length() + 1);
            int way = pick(3);
            if (way == 0 && spoiled.length() < 160) {
                spoiled.insert(at, sign);
            } else if (at < spoiled.length()) {
                if (way == 1) {
                    spoiled.setCharAt(at, sign);
                } else {
                    spoiled.deleteCharAt(at);
                }
            }
        }
        if (pick(10) == 0) {
            spoiled.setLength(pick(spoiled.length() + 1));
        }
        return spoiled.toString();
    }

    private void tell(int sort) {
        if (pick(8) > 0) {
            due("end(0)", soup.end(0) ? 1 : 0, model.end(0) ? 1 : 0);
        }
        String text = sort == 0 ? street() : liking();
        text = pick(8) == 0 ? spoiled(text) : text;
        for (int at = 0; at < text.length(); at += 20) {
            int[] n = Check.numbers(text.substring(at, Math.min(text.length(), at + 20)));
            due("feed of '" + text + "'", soup.feed(n[0], n[1], n[2], n[3], n[4]), model.feed(n));
        }
        due("fault(0)", soup.fault(0), model.fault(0));
        due("fault(1)", soup.fault(1), model.fault(1));
        int asked = pick(30) == 0 ? near(2) : sort;
        due("text(" + asked + ")", soup.text(asked), model.text(asked));
        houses = model.count(0);
    }

    private int drawnOrder() {
        if (pick(10) == 0) {
            return near(100000);
        }
        String digits = "";
        while (digits.length() < houses) {
            int h = pick(houses);
            digits += digits.indexOf('0' + h) < 0 ? "" + h : "";
        }
        return digits.isEmpty() ? 0 : Integer.parseInt(digits);
    }

    private void call() {
        if (houses == 0 && pick(3) == 0) {
            tell(0);
            return;
        }
        switch (pick(3)) {
            case 0 -> change();
            case 1 -> ask();
            default -> seek();
        }
    }

    private void change() {
        int a = house();
        int b = near(4);
        int c = near(99);
        switch (pick(12)) {
            case 0 -> tellSeldom();
            case 1 -> {
                int k = pick(6) - 1;
                due("liking(" + k + ")", soup.liking(k) ? 1 : 0, model.liking(k) ? 1 : 0);
            }
            case 2 -> {
                int o = drawnOrder();
                due("order(" + o + ")", soup.order(o) ? 1 : 0, model.order(o) ? 1 : 0);
            }
            case 3, 4, 5 -> {
                int stuff = pick(5) == 0 ? 9 : b;
                due("put(" + a + ", " + stuff + ")", soup.put(a, stuff) ? 1 : 0, model.put(a, stuff) ? 1 : 0);
            }
            case 6, 7 -> due("fill(" + a + ", " + b + ", " + c + ")",
                soup.fill(a, b, c) ? 1 : 0, model.fill(a, b, c) ? 1 : 0);
            case 8 -> {
                int n = pick(3) == 0 ? near(30) : 1 + pick(3);
                due("days(" + n + ")", soup.days(n), model.days(n));
            }
            case 9 -> {
                int n = pick(3) == 0 ? near(30) : 1 + pick(3);
                long seed = random.nextLong();
                due("drawn(" + n + ", " + seed + ")", soup.drawn(n, seed), model.drawn(n, seed));
            }
            case 10 -> due("undo()", soup.undo(), model.undo());
            default -> {
                if (pick(2) == 0) {
                    due("image()", soup.image(), model.image());
                } else {
                    due("back()", soup.back(), model.back());
                }
            }
        }
    }

    private void tellSeldom() {
        int way = pick(12);
        if (way == 0) {
            tell(0);
        } else if (way < 8) {
            tell(1);
        } else {
            int n = near(160);
            due("end(" + n + ")", soup.end(n) ? 1 : 0, model.end(n) ? 1 : 0);
        }
    }

    private void ask() {
        int a = house();
        int b = near(9);
        switch (pick(6)) {
            case 0 -> due("house(" + a + ", " + b + ")", thrown(() -> soup.house(a, b)), thrown(() -> model.house(a, b)));
            case 1 -> due("share(" + a + ", " + b + ")", soup.share(a, b), model.share(a, b));
            case 2 -> due("heat(" + a + ")", soup.heat(a), model.heat(a));
            case 3 -> due("first()", soup.first(), model.first());
            case 4 -> due("left()", soup.left(), model.left());
            default -> due("lasts(" + a + ")", soup.lasts(a), model.lasts(a));
        }
    }

    private static long thrown(java.util.function.IntSupplier call) {
        try {
            return call.getAsInt();
        } catch (NoSuchElementException e) {
            return Long.MIN_VALUE;
        }
    }

    private void seek() {
        int a = house();
        int b = house();
        int w = choice();
        int what = choice();
        int g = 1 + near(98);
        int least = pick(3) == 0 ? 1 + near(98) : 1 + pick(12);
        String whats = w + ", " + what + ")";
        switch (pick(9)) {
            case 0 -> {
                if (pick(4) == 0) {
                    due("puts(" + whats, soup.puts(w, what), model.puts(w, what));
                }
            }
            case 1 -> {
                if (pick(2) == 0) {
                    due("orders(" + whats, soup.orders(w, what), model.orders(w, what));
                }
            }
            case 2 -> due("bestFor(" + a + ", " + b + ", " + what + ")",
                soup.bestFor(a, b, what), model.bestFor(a, b, what));
            case 3 -> {
                int h = pick(3) == 0 ? -1 : a;
                int n = pick(3) == 0 ? near(30) : 1 + pick(8);
                due("about(" + h + ", " + n + ")", soup.about(h, n), model.about(h, n));
            }
            case 4 -> due("poison(" + a + ", " + g + ", " + b + ")", soup.poison(a, g, b), model.poison(a, g, b));
            case 5 -> {
                int set = near((1 << houses) - 1);
                due("guilty(" + g + ", " + least + ", " + set + ")",
                    soup.guilty(g, least, set), model.guilty(g, least, set));
            }
            case 6 -> due("harm(" + a + ", " + least + ", " + what + ")",
                soup.harm(a, least, what), model.harm(a, least, what));
            case 7 -> due("stranger(" + a + ", " + g + ", " + what + ")",
                soup.stranger(a, g, what), model.stranger(a, g, what));
            default -> due("exchange(" + what + ")", soup.exchange(what), model.exchange(what));
        }
    }

    private void lookAtState() {
        for (int what = -1; what <= 11; what++) {
            due("count(" + what + ")", soup.count(what), model.count(what));
        }
        for (int h = 0; h < houses; h++) {
            for (int what = 0; what <= 9; what++) {
                due("house(" + h + ", " + what + ")", soup.house(h, what), model.house(h, what));
            }
            due("eaten(" + h + ")", soup.eaten(h), model.eaten(h));
            due("meal(" + h + ")", soup.meal(h), model.meal(h));
        }
    }
}
