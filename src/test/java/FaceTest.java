import java.lang.reflect.Constructor;
import java.lang.reflect.Field;
import java.lang.reflect.Method;
import java.lang.reflect.Modifier;
import java.nio.file.Files;
import java.nio.file.Path;
import java.util.ArrayList;
import java.util.Arrays;
import java.util.List;
import java.util.Random;
import java.util.TreeSet;
import java.util.regex.Matcher;
import java.util.regex.Pattern;

/** The face of the class as the document has it, the rules of the language that can be seen, and no throw but the told one. */
public final class FaceTest {
    private static final String[] FACE = {
        "int feed(int,int,int,int,int)", "boolean end(int)", "int fault(int)", "int text(int)", "int house(int,int)",
        "boolean liking(int)", "boolean order(int)", "boolean put(int,int)", "boolean fill(int,int,int)",
        "int meal(int)", "int share(int,int)", "int heat(int)", "int first()", "int days(int)", "int undo()",
        "int eaten(int)", "int puts(int,int)", "int orders(int,int)", "int bestFor(int,int,int)",
        "int about(int,int)", "int poison(int,int,int)", "int guilty(int,int,int)", "int harm(int,int,int)",
        "int stranger(int,int,int)", "int exchange(int)", "int lasts(int)", "int left()", "int drawn(int,long)",
        "int image()", "int back()", "int count(int)"};

    private FaceTest() {
    }

    public static void main(String[] args) throws Exception {
        face();
        classes();
        source(Files.readString(Path.of(args.length > 0 ? args[0] : "src/main/java/NeighbourSoup.java")));
        wildCalls();
        Check.finish();
    }

    private static String told(Method m) {
        List<String> types = new ArrayList<>();
        for (Class<?> type : m.getParameterTypes()) {
            types.add(type.getName());
        }
        return m.getReturnType().getName() + " " + m.getName() + "(" + String.join(",", types) + ")";
    }

    private static void face() throws Exception {
        Class<?> soup = NeighbourSoup.class;
        Check.due("public and final", Modifier.isPublic(soup.getModifiers()) && Modifier.isFinal(soup.getModifiers()), true);
        TreeSet<String> due = new TreeSet<>(Arrays.asList(FACE));
        TreeSet<String> names = new TreeSet<>();
        TreeSet<String> found = new TreeSet<>();
        for (Method m : soup.getDeclaredMethods()) {
            if (Modifier.isPublic(m.getModifiers())) {
                found.add(told(m));
                names.add(m.getName());
            }
        }
        Check.due("methods " + found, found.equals(due), true);
        for (Method m : soup.getDeclaredMethods()) {
            boolean isPublic = Modifier.isPublic(m.getModifiers());
            Check.due(m + " public or private", isPublic || Modifier.isPrivate(m.getModifiers()), true);
            Check.due(m + " has a name of the face", !isPublic && names.contains(m.getName()), false);
        }
        for (Constructor<?> c : soup.getDeclaredConstructors()) {
            Check.due(c + " public", Modifier.isPublic(c.getModifiers()) && c.getParameterCount() == 0, true);
        }
        for (Field f : soup.getDeclaredFields()) {
            boolean constant = f.getName().equals("NONE") || f.getName().equals("HIDDEN");
            Check.due(f + " public", Modifier.isPublic(f.getModifiers()), constant);
            Check.due(f + " private", Modifier.isPrivate(f.getModifiers()), !constant);
        }
        Check.due("house throws", soup.getMethod("house", int.class, int.class).getExceptionTypes().length, 1);
        Check.due("NONE", NeighbourSoup.NONE, -1);
        Check.due("HIDDEN", NeighbourSoup.HIDDEN, -100000000);
    }

    private static void classes() {
        List<Class<?>> all = new ArrayList<>(Arrays.asList(NeighbourSoup.class.getDeclaredClasses()));
        Check.due("twelve classes at most", all.size() + 1 <= 12, true);
        for (Class<?> c : all) {
            Check.due(c + " static", Modifier.isStatic(c.getModifiers()), true);
            Check.due(c + " not public", Modifier.isPublic(c.getModifiers()), false);
        }
        all.add(NeighbourSoup.class);
        for (Class<?> c : all) {
            int fields = 0;
            for (Field f : c.getDeclaredFields()) {
                boolean isStatic = Modifier.isStatic(f.getModifiers());
                fields += isStatic ? 0 : 1;
                Check.due(f + " static and not final", isStatic && !Modifier.isFinal(f.getModifiers()), false);
            }
            Check.due(c + " has twenty fields at most", fields <= 20, true);
            for (Method m : c.getDeclaredMethods()) {
                Check.due(m + " has seven parameters at most", m.getParameterCount() <= 7, true);
            }
        }
    }

    /** Words that the rules leave out, looked for outside of comments. */
    private static void source(String text) {
        String code = text.replaceAll("(?s)/\\*.*?\\*/", "").replaceAll("//.*", "");
        String[] words = {"\\btry\\b", "\\bcatch\\b", "->", "::", "\\bsynchronized\\b", "\\bassert\\b", "\\bfinally\\b",
            "\\bpackage\\b", "\\bstatic\\s*\\{", "\\bSystem\\.(?!arraycopy)", "Exact\\b", "\\bdouble\\b", "\\bfloat\\b",
            "@", "\\bhashCode\\b", "\\bequals\\b", "\\btoString\\b"};
        for (String word : words) {
            Check.due("the source has " + word, Pattern.compile(word).matcher(code).find(), false);
        }
        Matcher imports = Pattern.compile("import ([^;]*);").matcher(code);
        while (imports.find()) {
            boolean may = imports.group(1).equals("java.util.Arrays")
                || imports.group(1).equals("java.util.NoSuchElementException");
            Check.due("import " + imports.group(1), may, true);
        }
        Matcher thrown = Pattern.compile("throw new (\\w+)").matcher(code);
        while (thrown.find()) {
            Check.due("throws " + thrown.group(1), thrown.group(1).equals("NoSuchElementException"), true);
        }
    }

    /** Any arguments in any state: house alone throws, and that alone which is told. */
    private static void wildCalls() throws Exception {
        Random random = new Random(11);
        Method[] methods = NeighbourSoup.class.getMethods();
        Arrays.sort(methods, (a, b) -> told(a).compareTo(told(b)));
        for (int run = 0; run < 200; run++) {
            NeighbourSoup x = new NeighbourSoup();
            for (int i = 0; i < 500; i++) {
                if (i % 50 == 20 || i % 50 == 30) {
                    Check.tape(x, i % 50 == 20 ? "p b9;h a99 l9 k1;h b99 n0;h c99 l0" : "y:!l>[n-s]?9999*s/[h-i];y:t");
                    x.text(i % 50 == 20 ? 0 : 1);
                }
                Method m = methods[random.nextInt(methods.length)];
                if (m.getDeclaringClass() == NeighbourSoup.class) {
                    wildCall(x, m, random);
                }
            }
        }
    }

    private static int wild(Random random) {
        int[] odd = {Integer.MIN_VALUE, Integer.MAX_VALUE, -1, -2, 0, 1, 2, 3, 9, 99, 100, 160, 1 << 30, random.nextInt()};
        return random.nextInt(3) > 0 ? random.nextInt(8) - 1 : odd[random.nextInt(odd.length)];
    }

    private static void wildCall(NeighbourSoup x, Method m, Random random) throws Exception {
        Object[] arguments = new Object[m.getParameterCount()];
        for (int i = 0; i < arguments.length; i++) {
            boolean isLong = m.getParameterTypes()[i] == long.class;
            arguments[i] = isLong ? (Object) random.nextLong() : (Object) wild(random);
        }
        try {
            m.invoke(x, arguments);
        } catch (java.lang.reflect.InvocationTargetException e) {
            boolean may = m.getName().equals("house") && e.getCause().getClass() == java.util.NoSuchElementException.class;
            Check.due(m.getName() + Arrays.toString(arguments) + " throws " + e.getCause(), may, true);
        }
    }
}
