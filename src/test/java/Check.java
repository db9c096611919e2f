import java.nio.charset.StandardCharsets;

/** Counts answers that are not as due, and tells texts to a soup. */
final class Check {
    private static int wrong = 0;
    private static int looked = 0;

    private Check() {
    }

    static void due(String call, long got, long want) {
        looked++;
        if (got != want) {
            wrong++;
            System.out.println(call + " answered " + got + ", due is " + want);
        }
    }

    static void due(String call, boolean got, boolean want) {
        due(call, got ? 1 : 0, want ? 1 : 0);
    }

    static void noSuchElement(NeighbourSoup soup, int house, int what) {
        boolean thrown = false;
        try {
            soup.house(house, what);
        } catch (java.util.NoSuchElementException e) {
            thrown = true;
        }
        due("house(" + house + ", " + what + ") throws", thrown, true);
    }

    static void finish() {
        System.out.println(looked + " answers looked at, " + wrong + " not as due");
        if (wrong != 0) {
            System.exit(1);
        }
    }

    /** Five numbers that feed a text of up to twenty bytes. */
    static int[] numbers(String text) {
        byte[] bytes = text.getBytes(StandardCharsets.ISO_8859_1);
        int[] numbers = new int[5];
        for (int i = 0; i < bytes.length; i++) {
            numbers[i / 4] |= (bytes[i] & 255) << 24 - 8 * (i % 4);
        }
        return numbers;
    }

    /** Feeds a text behind what the tape has; the last answer. */
    static int feed(NeighbourSoup soup, String text) {
        int answer = soup.count(2);
        for (int i = 0; i < text.length(); i += 20) {
            int[] n = numbers(text.substring(i, Math.min(text.length(), i + 20)));
            answer = soup.feed(n[0], n[1], n[2], n[3], n[4]);
        }
        return answer;
    }

    static void tape(NeighbourSoup soup, String text) {
        soup.end(0);
        feed(soup, text);
    }

    static void street(NeighbourSoup soup, String text) {
        tape(soup, text);
        due("fault(0) of " + text, soup.fault(0), -1);
        due("text(0) of " + text + " refused", soup.text(0) == -1, false);
    }

    static NeighbourSoup street(String text) {
        NeighbourSoup soup = new NeighbourSoup();
        street(soup, text);
        return soup;
    }

    /** Tells a liking and lets it hold. */
    static void liking(NeighbourSoup soup, String text) {
        tape(soup, text);
        due("fault(1) of " + text, soup.fault(1), -1);
        int number = soup.text(1);
        due("liking of " + text + " refused", number == -1, false);
        due("liking(" + number + ")", soup.liking(number), true);
    }
}
