import java.util.ArrayList;
import java.util.HashMap;
import java.util.LinkedHashSet;
import java.util.List;
import java.util.Map;

/** The grammar of likings, written out rule by rule, and Earley's way to see how far a text goes along with it. */
final class Grammar {
    private static final int MOST_NESTED = 6;
    private final Map<String, List<String[]>> rules = new HashMap<>();

    private record Item(String name, String[] parts, int dot, int from) {
        String key() {
            return name + ">" + String.join(" ", parts) + "@" + dot + "#" + from;
        }
    }

    Grammar() {
        rule("text", "clause");
        rule("text", "text", ";", "clause");
        rule("clause", "y", ":", "sum0");
        rule("clause", "y", ":", "cond0", "?", "sum0");
        for (String c : "= < >".split(" ")) {
            rule("cmp", c);
        }
        for (char c = '0'; c <= '9'; c++) {
            rule("digit", "" + c);
        }
        rule("number", "digit");
        rule("number", "digit", "digit");
        rule("number", "digit", "digit", "digit");
        rule("number", "digit", "digit", "digit", "digit");
        for (int d = 0; d <= MOST_NESTED; d++) {
            rule("cond" + d, "truth" + d);
            rule("cond" + d, "cond" + d, "|", "truth" + d);
            rule("truth" + d, "unit" + d);
            rule("truth" + d, "truth" + d, "&", "unit" + d);
            rule("unit" + d, "sum" + d, "cmp", "sum" + d);
            rule("sum" + d, "term" + d);
            rule("sum" + d, "sum" + d, "+", "term" + d);
            rule("sum" + d, "sum" + d, "-", "term" + d);
            rule("term" + d, "atom" + d);
            rule("term" + d, "term" + d, "*", "atom" + d);
            rule("term" + d, "term" + d, "/", "atom" + d);
            rule("atom" + d, "number");
            for (String c : "l n s h i t".split(" ")) {
                rule("atom" + d, c);
            }
            if (d < MOST_NESTED) {
                rule("unit" + d, "!", "unit" + (d + 1));
                rule("unit" + d, "(", "cond" + (d + 1), ")");
                rule("atom" + d, "[", "sum" + (d + 1), "]");
            }
        }
    }

    private void rule(String name, String... parts) {
        rules.computeIfAbsent(name, k -> new ArrayList<>()).add(parts);
    }

    /** -1: it is a liking; else the first byte at which none can go on. */
    int fault(String text) {
        List<Map<String, Item>> sets = new ArrayList<>();
        sets.add(start());
        boolean blankAhead = false;
        char ahead = ' ';
        for (int i = 0; i < text.length(); i++) {
            char c = text.charAt(i);
            if (c == ' ') {
                blankAhead = true;
                continue;
            }
            boolean torn = blankAhead && Character.isDigit(c) && Character.isDigit(ahead);
            Map<String, Item> next = step(sets, torn ? "torn" : "" + c);
            if (next.isEmpty()) {
                return i;
            }
            sets.add(next);
            blankAhead = false;
            ahead = c;
        }
        for (Item item : sets.get(sets.size() - 1).values()) {
            if (item.name.equals("text") && item.dot == item.parts.length && item.from == 0) {
                return -1;
            }
        }
        return text.length();
    }

    private Map<String, Item> start() {
        Map<String, Item> set = new HashMap<>();
        LinkedHashSet<Item> todo = new LinkedHashSet<>();
        for (String[] parts : rules.get("text")) {
            todo.add(new Item("text", parts, 0, 0));
        }
        close(List.of(), set, todo, 0);
        return set;
    }

    private Map<String, Item> step(List<Map<String, Item>> sets, String sign) {
        LinkedHashSet<Item> todo = new LinkedHashSet<>();
        for (Item item : sets.get(sets.size() - 1).values()) {
            if (item.dot < item.parts.length && item.parts[item.dot].equals(sign) && !rules.containsKey(sign)) {
                todo.add(new Item(item.name, item.parts, item.dot + 1, item.from));
            }
        }
        Map<String, Item> set = new HashMap<>();
        close(sets, set, todo, sets.size());
        return set;
    }

    /** No rule is empty, so what is completed here began in an earlier set. */
    private void close(List<Map<String, Item>> sets, Map<String, Item> set, LinkedHashSet<Item> todo, int here) {
        ArrayList<Item> queue = new ArrayList<>(todo);
        for (int i = 0; i < queue.size(); i++) {
            Item item = queue.get(i);
            if (set.putIfAbsent(item.key(), item) != null) {
                continue;
            }
            if (item.dot == item.parts.length) {
                for (Item waiting : sets.get(item.from).values()) {
                    if (waiting.dot < waiting.parts.length && waiting.parts[waiting.dot].equals(item.name)) {
                        queue.add(new Item(waiting.name, waiting.parts, waiting.dot + 1, waiting.from));
                    }
                }
            } else if (rules.containsKey(item.parts[item.dot])) {
                for (String[] parts : rules.get(item.parts[item.dot])) {
                    queue.add(new Item(item.parts[item.dot], parts, 0, here));
                }
            }
        }
    }
}
