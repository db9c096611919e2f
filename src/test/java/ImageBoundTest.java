import java.math.BigInteger;

/** Promises 29 to 32 and their terms: each sentence that names a bound, at it and one beyond it. */
public final class ImageBoundTest {
    private static final int HIDDEN = NeighbourSoup.HIDDEN;
    private static final int MIN = Integer.MIN_VALUE;
    private static final int MAX = Integer.MAX_VALUE;
    private static final BigInteger ROUND = BigInteger.ONE.shiftLeft(64);
    private static final BigInteger TIMES = new BigInteger("6364136223846793005");
    private static final BigInteger AND = new BigInteger("1442695040888963407");
    private static final String STORES = "ha99b99c99d99e99l0";

    private ImageBoundTest() {
    }

    public static void main(String[] args) {
        drawnRefused();
        drawnOnTheLastDay();
        drawnOfAllSeeds();
        drawnOfAnyHouses();
        drawnIsUndone();
        imageWithoutStreet();
        imageInsteadOfTheOneAhead();
        imageKeeps();
        backWithoutImage();
        backOfAnotherStreet();
        backAndUndone();
        backIsNoImage();
        countRefused();
        countAtItsBounds();
        manyCalls();
        Check.finish();
    }

    /** Promise 29: "NONE: no STREET, out of bounds". */
    private static void drawnRefused() {
        for (int n : new int[] {0, 31, -1, 32, 999, MIN, MAX}) {
            Twins.same("drawn(" + n + ", 5)", Made::running, x -> x.drawn(n, 5), -1);
        }
        Twins.same("drawn(1, 5) without a street", Made::told, x -> x.drawn(1, 5), -1);
        Twins.same("drawn(1, 5) without a street", Made::bare, x -> x.drawn(1, 5), -1);
        NeighbourSoup x = Check.street("h");
        Check.due("drawn(1, 5)", x.drawn(1, 5), 1);
        Check.due("drawn(30, 5)", x.drawn(30, 5), 31);
    }

    /** Promise 29: "the DAY would be above 999". */
    private static void drawnOnTheLastDay() {
        for (int n : new int[] {1, 2, 30}) {
            Twins.same("drawn(" + n + ", 5) on day 999", Made::late, x -> x.drawn(n, 5), -1);
        }
        NeighbourSoup x = Made.late();
        for (int i = 0; i < 30; i++) {
            x.undo();
        }
        Check.due("drawn(30, 5) on day 969", x.drawn(30, 5), 999);
        NeighbourSoup y = Made.late();
        y.undo();
        int puts = y.count(10);
        Check.due("drawn(2, 5) on day 998", y.drawn(2, 5), -1);
        Check.due("none goes on", y.count(3), 998);
        Check.due("none is drawn", y.count(10), puts);
        Check.due("drawn(1, 5) on day 998", y.drawn(1, 5), 999);
    }

    /** The puts of the last of n days by a seed, reckoned with numbers of any length. */
    private static int lastPuts(long seed, int n, int houses) {
        BigInteger x = BigInteger.valueOf(seed).mod(ROUND);
        int puts = 0;
        for (int day = 0; day < n; day++) {
            puts = 0;
            for (int house = 0; house < houses; house++) {
                x = x.multiply(TIMES).add(AND).mod(ROUND);
                int draw = x.shiftRight(33).mod(BigInteger.valueOf(6)).intValue();
                puts = puts * 10 + (draw == 5 ? 9 : draw);
            }
        }
        return puts;
    }

    /** "x times 6364136223846793005 and 1442695040888963407 (64 bits, going round)", "without sign". */
    private static void drawnOfAllSeeds() {
        long[] seeds = {0, 1, -1, 2, 5, Long.MAX_VALUE, Long.MIN_VALUE, Long.MAX_VALUE - 1, Long.MIN_VALUE + 1,
            1L << 33, -(1L << 33), 1L << 32, Integer.MAX_VALUE, Integer.MIN_VALUE, 6364136223846793005L};
        for (long seed : seeds) {
            for (int n : new int[] {1, 2, 29, 30}) {
                NeighbourSoup x = Check.street("h;h;h;h;h");
                Check.due("drawn(" + n + ", " + seed + ")", x.drawn(n, seed), n);
                Check.due("puts", x.count(10), lastPuts(seed, n, 5));
            }
        }
    }

    /** "on each the PUTS of HOUSES by numbers are drawn": by numbers, whatever the order is; stores are used. */
    private static void drawnOfAnyHouses() {
        String street = "h";
        for (int houses = 1; houses <= 6; houses++) {
            NeighbourSoup x = Check.street(street);
            x.drawn(7, 77);
            Check.due("puts of " + houses, x.count(10), lastPuts(77, 7, houses));
            street += ";h";
        }
        NeighbourSoup turned = Check.street("h;h;h;h;h;h");
        turned.order(543210);
        turned.drawn(7, 77);
        Check.due("by numbers, not by the order", turned.count(10), lastPuts(77, 7, 6));
        NeighbourSoup x = Check.street(STORES + ";h;lg1");
        int[] used = new int[10];
        for (int n = 1; n <= 30; n++) {
            used[lastPuts(4, n, 2) / 10]++;
        }
        x.drawn(30, 4);
        for (int stuff = 0; stuff < 5; stuff++) {
            Check.due("store " + stuff, x.house(0, stuff), 99 - used[stuff]);
        }
        Check.due("all thirty", used[0] + used[1] + used[2] + used[3] + used[4] + used[9], 30);
    }

    /** Days that are drawn can be undone, thirty at most; puts stay as they were drawn. */
    private static void drawnIsUndone() {
        NeighbourSoup x = Check.street(STORES + ";h;lg1");
        x.drawn(30, 4);
        x.drawn(1, 9);
        Check.due("thirty can be undone", x.count(8), 30);
        for (int day = 30; day >= 1; day--) {
            Check.due("undo", x.undo(), day);
        }
        Check.due("no more", x.undo(), -1);
        Check.due("puts stay", x.count(10), lastPuts(9, 1, 2));
        int first = lastPuts(4, 1, 2) / 10;
        for (int stuff = 0; stuff < 5; stuff++) {
            Check.due("store " + stuff, x.house(0, stuff), stuff == first ? 98 : 99);
        }
    }

    /** Promise 30: "NONE: no STREET." */
    private static void imageWithoutStreet() {
        Twins.same("image() without a street", Made::told, NeighbourSoup::image, -1);
        Twins.same("image() without a street", Made::bare, NeighbourSoup::image, -1);
        NeighbourSoup x = Made.told();
        x.image();
        x.text(0);
        Check.due("none was kept", x.back(), -1);
        Check.due("image() on day 0", x.image(), 0);
        NeighbourSoup late = Made.late();
        Check.due("image() on day 999", late.image(), 999);
        Check.due("back() on day 999", late.back(), 999);
    }

    /** Promise 30: "An IMAGE (instead of the one ahead): the DAY." */
    private static void imageInsteadOfTheOneAhead() {
        NeighbourSoup x = Check.street("ha99;h");
        for (int day = 0; day < 5; day++) {
            Check.due("image()", x.image(), day);
            Check.due("no day is forgotten", x.count(8), day);
            x.days(1);
        }
        Check.due("the latest image", x.back(), 4);
        Check.due("there is no other", x.back(), 4);
        Check.due("four days eaten", x.eaten(0), 160);
    }

    /** "An IMAGE keeps STORES, the DAY, EATEN, ORDER, PUTS": all of them, of all houses, and no more. */
    private static void imageKeeps() {
        NeighbourSoup x = Made.six();
        for (int house = 0; house < 6; house++) {
            for (int stuff = 0; stuff < 5; stuff++) {
                x.fill(house, stuff, 10 * house + stuff);
            }
        }
        x.image();
        int[] eaten = new int[6];
        for (int house = 0; house < 6; house++) {
            eaten[house] = x.eaten(house);
        }
        Check.liking(x, "y:1");
        Check.feed(x, "abc");
        for (int house = 0; house < 6; house++) {
            x.put(house, (house + 1) % 5);
            for (int stuff = 0; stuff < 5; stuff++) {
                x.fill(house, stuff, 99);
            }
        }
        x.order(12345);
        x.days(7);
        Check.due("back()", x.back(), 1);
        Check.due("the order", x.count(9), 543210);
        Check.due("the puts", x.count(10), 12349);
        for (int house = 0; house < 6; house++) {
            Check.due("eaten", x.eaten(house), eaten[house]);
            for (int stuff = 0; stuff < 5; stuff++) {
                Check.due("store", x.house(house, stuff), 10 * house + stuff);
            }
        }
        Check.due("the liking stays", x.count(4), 0);
        Check.due("the tape stays", x.count(2), 3);
        Check.due("likings stay", x.count(1), 1);
    }

    /** Promise 31: "NONE: no IMAGE of this STREET." */
    private static void backWithoutImage() {
        Twins.same("back() without a street", Made::told, NeighbourSoup::back, -1);
        Twins.same("back() without an image", Made::six, NeighbourSoup::back, -1);
        Twins.same("back() without an image", Made::alone, NeighbourSoup::back, -1);
        NeighbourSoup x = Made.six();
        Check.due("back()", x.back(), -1);
        Check.due("the day can be undone still", x.undo(), 0);
    }

    private static void backOfAnotherStreet() {
        Twins.same("back() of another street", () -> {
            NeighbourSoup x = Made.running();
            x.text(0);
            x.days(2);
            return x;
        }, NeighbourSoup::back, -1);
        NeighbourSoup same = Check.street("h;h");
        same.days(1);
        same.image();
        Check.street(same, "h;h");
        Check.due("the same text is another street", same.back(), -1);
        Check.due("it begins with day 0", same.count(3), 0);
        NeighbourSoup x = Made.running();
        Check.feed(x, "x");
        Check.due("a text that is refused", x.text(0), -1);
        Check.due("the image is there still", x.back(), 3);
        Check.tape(x, "y:7");
        Check.due("a liking is no street", x.text(1), 2);
        Check.due("the image is there still", x.back(), 3);
    }

    /** "BACK: they are so again (no DAY can be UNDONE then)". */
    private static void backAndUndone() {
        NeighbourSoup x = Made.running();
        Check.due("five can be undone", x.count(8), 5);
        Check.due("back()", x.back(), 3);
        Check.due("none can be undone", x.count(8), 0);
        Twins.same("undo() behind back()", () -> {
            NeighbourSoup y = Made.running();
            y.back();
            return y;
        }, NeighbourSoup::undo, -1);
        x.days(2);
        Check.due("two can be undone", x.count(8), 2);
        Check.due("undo", x.undo(), 4);
        Check.due("undo", x.undo(), 3);
        Check.due("no more", x.undo(), -1);
        NeighbourSoup ahead = Check.street("h;h");
        ahead.days(9);
        ahead.image();
        for (int i = 0; i < 4; i++) {
            ahead.undo();
        }
        Check.due("back() goes ahead, too", ahead.back(), 9);
        Check.due("nine days eaten", ahead.eaten(0), 360);
    }

    /** What is changed behind image() or back() doesn't reach the image. */
    private static void backIsNoImage() {
        NeighbourSoup x = Check.street("ha50;h");
        x.put(0, 0);
        x.image();
        for (int i = 0; i < 3; i++) {
            x.fill(0, 0, 99);
            x.put(0, 4);
            x.put(1, 2);
            x.order(10);
            x.days(3);
            Check.due("back()", x.back(), 0);
            Check.due("store", x.house(0, 0), 50);
            Check.due("puts", x.count(10), 9);
            Check.due("order", x.count(9), 1);
            Check.due("eaten", x.eaten(0), 0);
        }
    }

    /** Promise 32: "HIDDEN for others." */
    private static void countRefused() {
        for (int what : new int[] {-1, 11, -2, 12, 100, MIN, MAX}) {
            Twins.same("count(" + what + ")", Made::running, x -> x.count(what), HIDDEN);
            Twins.same("count(" + what + ")", Made::bare, x -> x.count(what), HIDDEN);
        }
    }

    private static void countAtItsBounds() {
        counts("one alone", Check.street("h;lg1t0c0"), new int[] {1, 0, 0, 0, -1, 1, 0, 0, 0, 0, 9});
        counts("running", Made.running(), new int[] {3, 2, 9, 5, 1, 8, 1, 15, 5, 201, 113});
        counts("full", Made.full(), new int[] {2, 4, 160, 0, 3, 10, 1, 5, 0, 1, 99});
        counts("late", Made.late(), new int[] {2, 0, 0, 999, -1, 1, 1, 5, 30, 1, 9});
        NeighbourSoup six = Check.street("h;h;h;h;h;h;lg30t1c20");
        counts("six", six, new int[] {6, 0, 0, 0, -1, 30, 1, 20, 0, 12345, 999999});
        six.order(543210);
        for (int house = 0; house < 6; house++) {
            six.put(house, 0);
        }
        counts("six", six, new int[] {6, 0, 0, 0, -1, 30, 1, 20, 0, 543210, 0});
    }

    private static void counts(String name, NeighbourSoup x, int[] want) {
        for (int what = 0; what <= 10; what++) {
            Check.due(name + ": count(" + what + ")", x.count(what), want[what]);
        }
    }

    /** "An object is used for at most 512 calls": up to the last of them all is as told. */
    private static void manyCalls() {
        NeighbourSoup x = new NeighbourSoup();
        x.feed('h', ';', 'h', 0, 0);
        x.text(0);
        for (int i = 3; i <= 508; i += 2) {
            x.days(1);
            x.undo();
        }
        Check.due("the 509th call", x.days(30), 30);
        Check.due("the 510th call", x.eaten(0), 30 * 40);
        Check.due("the 511th call", x.count(8), 30);
        Check.due("the 512th call", x.undo(), 29);
    }
}
