/** Promises 18 to 28 and their terms: each sentence that names a bound, at it and one beyond it. */
public final class QuestionBoundTest {
    private static final int HIDDEN = NeighbourSoup.HIDDEN;
    private static final int MIN = Integer.MIN_VALUE;
    private static final int MAX = Integer.MAX_VALUE;
    /** Numbers that are no house, and no place, of three. */
    private static final int[] NO_HOUSE = {-1, 3, 6, -2, 10, MIN, MAX};
    /** Numbers that are neither 0 nor 1. */
    private static final int[] NO_CHOICE = {-1, 2, 3, MIN, MAX};
    private static final int[] NOT_1_TO_99 = {0, 100, -1, 101, MIN, MAX};
    private static final int[] NOT_1_TO_30 = {0, 31, -1, 99, MIN, MAX};

    private QuestionBoundTest() {
    }

    public static void main(String[] args) {
        allAreApart();
        putsRefused();
        putsOfFive();
        putsInStore();
        putsByTheLaw();
        leastPutsOfSeveral();
        putsByBothWishes();
        ordersRefused();
        ordersOfOneAndSix();
        ordersWithoutTheLaw();
        bestForRefused();
        bestForAtItsBounds();
        aboutRefused();
        aboutAtItsBounds();
        aboutTurns();
        poisonRefused();
        poisonAtItsBounds();
        guiltyRefused();
        guiltyAtItsBounds();
        harmRefused();
        harmAtItsBounds();
        leastHarmOfSeveral();
        strangerRefused();
        strangerAtItsBounds();
        exchangeRefused();
        exchangeAtItsBounds();
        lastsRefused();
        lastsAtItsBounds();
        left();
        nothingOfAnotherStreet();
        Check.finish();
    }

    /** "(Apart, on the DAY that is.)": whatever is asked, nothing is changed. */
    private static void allAreApart() {
        for (int what = 0; what <= 1; what++) {
            int w = what;
            for (int wish = 0; wish <= 1; wish++) {
                int v = wish;
                Twins.apart("puts(" + v + ", " + w + ")", Made::running, x -> x.puts(v, w));
                Twins.apart("orders(" + v + ", " + w + ")", Made::running, x -> x.orders(v, w));
                Twins.apart("orders(" + v + ", " + w + ") of six", Made::six, x -> x.orders(v, w));
            }
            Twins.apart("bestFor(2, 1, " + w + ")", Made::running, x -> x.bestFor(2, 1, w));
            Twins.apart("harm(1, 3, " + w + ")", Made::running, x -> x.harm(1, 3, w));
            Twins.apart("stranger(1, 9, " + w + ")", Made::running, x -> x.stranger(1, 9, w));
            Twins.apart("exchange(" + w + ")", Made::running, x -> x.exchange(w));
            Twins.apart("exchange(" + w + ") of six", Made::six, x -> x.exchange(w));
        }
        Twins.apart("about(0, 30)", Made::running, x -> x.about(0, 30));
        Twins.apart("about(-1, 30)", Made::running, x -> x.about(-1, 30));
        Twins.apart("poison(2, 50, 1)", Made::running, x -> x.poison(2, 50, 1));
        Twins.apart("guilty(50, 5, 2)", Made::running, x -> x.guilty(50, 5, 2));
        Twins.apart("lasts(1)", Made::running, x -> x.lasts(1));
        Twins.apart("left()", Made::running, NeighbourSoup::left);
        Twins.apart("first()", Made::running, NeighbourSoup::first);
        Twins.apart("heat(0)", Made::running, x -> x.heat(0));
        Twins.apart("share(0, 3)", Made::running, x -> x.share(0, 3));
    }

    /** Promise 18: "HIDDEN: six HOUSES, no STREET, no such ones." */
    private static void putsRefused() {
        for (int no : NO_CHOICE) {
            Twins.same("puts(" + no + ", 0)", Made::running, x -> x.puts(no, 0), HIDDEN);
            Twins.same("puts(1, " + no + ")", Made::running, x -> x.puts(1, no), HIDDEN);
        }
        Twins.same("puts(0, 0) without a street", Made::told, x -> x.puts(0, 0), HIDDEN);
        for (int i = 0; i < 4; i++) {
            int wish = i / 2;
            int what = i % 2;
            Twins.same("puts of six", Made::six, x -> x.puts(wish, what), HIDDEN);
        }
    }

    /** "five HOUSES at most". */
    private static void putsOfFive() {
        NeighbourSoup x = Check.street("h;h;h;h;h");
        Check.due("nothing is in store", x.puts(0, 0), 99999);
        Check.due("nothing is in store", x.puts(0, 1), 100);
        Check.due("two get nothing", x.puts(1, 1), 0);
        NeighbourSoup y = Check.street("pa0;ha30l0;hb30l0k1;hc30l0k2;hd30l0k3;hk4");
        Check.due("all but the last put what they have", y.puts(0, 0), 1239);
        Check.due("forty grains", y.puts(0, 1), 40);
        Check.liking(y, "y:1000*1000");
        Check.due("the most", y.puts(0, 1), 5000000);
        Check.due("the most for the worst-off", y.puts(1, 1), 1000000);
        Check.liking(y, "y:0-1000*1000");
        Check.due("the least", y.puts(0, 1), -5000000);
        Check.due("of all alike the least as digits", y.puts(0, 0), 1239);
        Check.due("one alone", Check.street("pa7;h").puts(0, 1), 14);
        Check.due("one alone", Check.street("pa7;h").puts(1, 0), 9);
    }

    /** "each a STUFF of which its STORE has enough, or nothing". */
    private static void putsInStore() {
        for (int grains : new int[] {1, 10, 30}) {
            NeighbourSoup x = Check.street("pa10;hb" + grains + "l0;hk1;lg" + grains);
            Check.due("just enough", x.puts(0, 0), 19);
            Check.due("just enough", x.puts(0, 1), 10 + 2 * grains);
            x.fill(0, 1, grains - 1);
            Check.due("one too few", x.puts(0, 0), 99);
            Check.due("one too few", x.puts(0, 1), 10);
        }
    }

    /** "by which nobody BREAKS the LAW". */
    private static void putsByTheLaw() {
        NeighbourSoup bound = Check.street("pa0;hb30l0;hb30l0;hk1;lt1");
        Check.due("one of two may put it", bound.puts(0, 0), 199);
        Check.due("one of two may put it", bound.puts(0, 1), 20);
        bound.put(0, 1);
        bound.put(1, 1);
        Check.due("puts as they are don't count", bound.puts(1, 0), 199);
        NeighbourSoup free = Check.street("pa0;hb30l0;hb30l0;hk1;lt0");
        Check.due("both may put it", free.puts(0, 0), 119);
        Check.due("both may put it", free.puts(0, 1), 40);
        NeighbourSoup other = Check.street("pa0;hb30c30l0;hb30l0;hk2n1;lt1");
        Check.due("the one that can puts c, nobody b", other.puts(0, 0), 299);
    }

    /** "of several the least as digits": nothing is 9, behind all stuffs. */
    private static void leastPutsOfSeveral() {
        NeighbourSoup x = Check.street("pa0;hb10c10l0;hk4");
        Check.due("b or c", x.puts(0, 0), 19);
        Check.liking(x, "y:5");
        Check.due("b, c or nothing", x.puts(0, 0), 19);
        x.fill(0, 0, 10);
        Check.due("a, b, c or nothing", x.puts(0, 0), 9);
        NeighbourSoup y = Check.street("pa0;hb10l0;hb10l0;hk1");
        y.order(102);
        Check.due("house 0 is the highest digit, whatever the order is", y.puts(0, 0), 199);
    }

    /** "MEALS together (wish 0) or the least MEAL (1)". */
    private static void putsByBothWishes() {
        NeighbourSoup x = Check.street("pa20;hb10l10;hn1");
        Check.due("b is barred", x.puts(0, 0), 99);
        Check.due("together", x.puts(0, 1), 40);
        Check.due("the least", x.puts(1, 1), 20);
        NeighbourSoup y = Check.street("pa40;hb10l10;hl20;hk1");
        Check.due("by nothing 20, 40, 10, by b 20, 15 + 15 + 5, 15 + 5 + 5", y.puts(0, 0), 199);
        Check.due("together", y.puts(0, 1), 80);
        Check.due("the least", y.puts(1, 1), 20);
        NeighbourSoup wishes = Check.street("pa40;hb10l10;hl20n1;hk1");
        Check.due("by nothing 20, 40, 10, by b 20, 20 + 15 - 15, 20 + 5", wishes.puts(0, 0), 999);
        Check.due("together", wishes.puts(0, 1), 70);
        Check.due("for the worst-off b is best", wishes.puts(1, 0), 199);
        Check.due("for the worst-off b is best", wishes.puts(1, 1), 20);
        NeighbourSoup negative = Check.street("pa10;hl5n0k1;hn0k1");
        Check.due("all below nothing", negative.puts(0, 1), -20);
        Check.due("all below nothing", negative.puts(1, 1), -10);
    }

    /** Promise 19: "HIDDEN: no STREET, no such ones." */
    private static void ordersRefused() {
        for (int no : NO_CHOICE) {
            Twins.same("orders(" + no + ", 0)", Made::running, x -> x.orders(no, 0), HIDDEN);
            Twins.same("orders(1, " + no + ")", Made::running, x -> x.orders(1, no), HIDDEN);
        }
        Twins.same("orders(0, 0) without a street", Made::told, x -> x.orders(0, 0), HIDDEN);
        Twins.same("orders(1, 1) without a street", Made::bare, x -> x.orders(1, 1), HIDDEN);
    }

    private static void ordersOfOneAndSix() {
        Twins.same("orders(0, 0) of one", Made::alone, x -> x.orders(0, 0), 0);
        Twins.same("orders(1, 1) of one", Made::alone, x -> x.orders(1, 1), 10);
        NeighbourSoup x = Check.street("pa20;hl5;hl4;hl3;hl2;hl1;hl0");
        Check.liking(x, "y:i*s");
        Check.due("the greatest order", x.orders(0, 0), 543210);
        Check.due("1 + 4 + 9 + 16 + 5 * 10", x.orders(0, 1), 80);
        Check.liking(x, "y:3");
        Check.due("of all alike the least", x.orders(0, 0), 12345);
        Check.due("of all alike the least", x.orders(1, 0), 12345);
        Check.due("together", x.orders(0, 1), 18);
        Check.due("the least meal", x.orders(1, 1), 3);
        Check.liking(x, "y:0-1000*1000");
        Check.due("the least that can be", x.orders(0, 1), -6000000);
        Check.liking(x, "y:1000*1000");
        Check.due("the most that can be", x.orders(0, 1), 6000000);
    }

    /** "PUTS as they are (the LAW not asked)", stores just enough or one too few. */
    private static void ordersWithoutTheLaw() {
        NeighbourSoup x = Check.street("pa0;ha10l0;ha10l0;h");
        x.put(0, 0);
        x.put(1, 0);
        Check.due("both put", x.orders(0, 1), 40);
        Check.due("both put", x.orders(0, 0), 12);
        x.fill(0, 0, 9);
        Check.due("one has not enough", x.orders(0, 1), 20);
        Check.due("it may stand anywhere ahead", x.orders(0, 0), 12);
        x.put(1, 9);
        Check.due("nobody puts", x.orders(0, 1), 0);
        NeighbourSoup late = Check.street("pa0;h;ha10l0");
        late.put(1, 0);
        Check.due("as the last one it would put nothing", late.orders(0, 0), 10);
    }

    /** Promise 20: "HIDDEN: no such ones, alike." */
    private static void bestForRefused() {
        for (int no : NO_HOUSE) {
            Twins.same("bestFor(" + no + ", 0, 0)", Made::running, x -> x.bestFor(no, 0, 0), HIDDEN);
            Twins.same("bestFor(0, " + no + ", 1)", Made::running, x -> x.bestFor(0, no, 1), HIDDEN);
        }
        for (int no : NO_CHOICE) {
            Twins.same("bestFor(0, 1, " + no + ")", Made::running, x -> x.bestFor(0, 1, no), HIDDEN);
        }
        for (int house = 0; house < 3; house++) {
            int alike = house;
            Twins.same("bestFor of alike", Made::running, x -> x.bestFor(alike, alike, 0), HIDDEN);
            Twins.same("bestFor of alike", Made::running, x -> x.bestFor(alike, alike, 1), HIDDEN);
        }
        Twins.same("bestFor(0, 1, 0) without a street", Made::told, x -> x.bestFor(0, 1, 0), HIDDEN);
        Twins.same("bestFor(0, 1, 0) of one", Made::alone, x -> x.bestFor(0, 1, 0), HIDDEN);
        Twins.same("bestFor(0, 0, 0) of one", Made::alone, x -> x.bestFor(0, 0, 0), HIDDEN);
        Twins.same("bestFor(5, 6, 0) of six", Made::six, x -> x.bestFor(5, 6, 0), HIDDEN);
    }

    private static void bestForAtItsBounds() {
        NeighbourSoup x = Check.street("pa10;hb10l0;hk1");
        Check.due("just enough in store", x.bestFor(0, 1, 0), 1);
        Check.due("10 and 10 and 10 once more", x.bestFor(0, 1, 1), 30);
        x.fill(0, 1, 9);
        Check.due("one too few", x.bestFor(0, 1, 1), 10);
        NeighbourSoup y = Check.street("pa10;ha99b99c99d99e99l0;h;h");
        Check.due("of all alike the least", bestFor(y, "y:1"), 0);
        for (int stuff = 0; stuff < 5; stuff++) {
            NeighbourSoup z = Check.street("pa0;ha99b99c99d99e99l0;hk" + stuff);
            Check.due("stuff " + stuff, z.bestFor(0, 1, 0), stuff);
            Check.due("stuff " + stuff, z.bestFor(0, 1, 1), 20);
        }
        NeighbourSoup nothing = Check.street("pa0;ha99b99c99d99e99l0;h");
        Check.due("nothing, too", bestFor(nothing, "y:0-s"), 9);
        Check.due("nothing, too", nothing.bestFor(0, 1, 1), 0);
        NeighbourSoup least = Check.street("pa0;ha99b99c99d99e99l0;hk4n0");
        Check.due("the least of b, c, d, e and nothing", bestFor(least, "y:0-n"), 1);
        least.put(0, 0);
        Check.due("all else as it is, its put not", least.bestFor(0, 1, 0), 1);
        Check.due("the meal of a million less", bestForMeal(least, "y:0-1000*1000"), -1000000);
    }

    private static int bestFor(NeighbourSoup x, String liking) {
        Check.liking(x, liking);
        return x.bestFor(0, 1, 0);
    }

    private static int bestForMeal(NeighbourSoup x, String liking) {
        Check.liking(x, liking);
        return x.bestFor(0, 1, 1);
    }

    /** Promise 21: "HIDDEN: no such ones, out of bounds." */
    private static void aboutRefused() {
        for (int no : NO_HOUSE) {
            if (no != -1) {
                Twins.same("about(" + no + ", 1)", Made::running, x -> x.about(no, 1), HIDDEN);
            }
        }
        for (int no : NOT_1_TO_30) {
            Twins.same("about(0, " + no + ")", Made::running, x -> x.about(0, no), HIDDEN);
            Twins.same("about(-1, " + no + ")", Made::running, x -> x.about(-1, no), HIDDEN);
        }
        Twins.same("about(0, 1) without a street", Made::told, x -> x.about(0, 1), HIDDEN);
        Twins.same("about(-1, 1) without a street", Made::told, x -> x.about(-1, 1), HIDDEN);
        Twins.same("about(6, 1) of six", Made::six, x -> x.about(6, 1), HIDDEN);
    }

    /** "n (1 .. 30) NOONS ... from the DAY that is", "the HOUSE with the least (of several the lowest)". */
    private static void aboutAtItsBounds() {
        NeighbourSoup x = Check.street("pa10;h;h");
        Check.liking(x, "y:1000*1000");
        Check.due("one noon", x.about(1, 1), 1000000);
        Check.due("thirty noons", x.about(1, 30), 30000000);
        Check.due("of all alike the lowest", x.about(-1, 30), 0);
        Check.liking(x, "y:0-1000*1000");
        Check.due("thirty noons", x.about(0, 30), -30000000);
        Check.liking(x, "y:t");
        Check.due("day 0", x.about(0, 1), 0);
        Check.due("days 0 .. 29", x.about(0, 30), 435);
        x.days(2);
        Check.due("days 2 .. 31", x.about(0, 30), 495);
        NeighbourSoup late = Made.late();
        Check.liking(late, "y:t");
        Check.due("day 999", late.about(0, 1), 999);
        Check.due("apart it may go beyond day 999", late.about(1, 30), 30 * 999 + 435);
        NeighbourSoup alone = Check.street("pa10;h");
        Check.due("one alone, with a sunday", alone.about(0, 7), 160);
        Check.due("one alone", alone.about(-1, 7), 0);
    }

    /** "the ORDER turned by one HOUSE more each (the first goes to the end)", "(nothing less)". */
    private static void aboutTurns() {
        NeighbourSoup x = Check.street("pa60;h;h;h;h;h;h");
        Check.liking(x, "y:i=0?1");
        for (int house = 0; house < 6; house++) {
            for (int n = 1; n <= 30; n++) {
                Check.due("how often house " + house + " is first in " + n, x.about(house, n), (n + 5 - house) / 6);
            }
        }
        Check.due("the last one was not yet", x.about(-1, 5), 5);
        Check.due("all were once", x.about(-1, 6), 0);
        Check.due("house 1 was once in seven", x.about(-1, 7), 1);
        NeighbourSoup stores = Check.street("pa0;ha10l0;ha10l0");
        stores.put(0, 0);
        stores.put(1, 0);
        Check.due("stores are used each time", stores.about(0, 30), 15 * 20);
        Check.due("and stay", stores.house(0, 0), 10);
    }

    /** Promise 22: "NONE: no such ones, out of bounds." */
    private static void poisonRefused() {
        for (int no : NO_HOUSE) {
            Twins.same("poison(" + no + ", 9, 1)", Made::running, x -> x.poison(no, 9, 1), -1);
            Twins.same("poison(1, 9, " + no + ")", Made::running, x -> x.poison(1, 9, no), -1);
        }
        for (int no : NOT_1_TO_99) {
            Twins.same("poison(2, " + no + ", 1)", Made::running, x -> x.poison(2, no, 1), -1);
        }
        Twins.same("poison(0, 1, 0) without a street", Made::told, x -> x.poison(0, 1, 0), -1);
        Twins.same("poison(0, 1, 1) of one", Made::alone, x -> x.poison(0, 1, 1), -1);
    }

    /** "GRAINS (1 .. 99) that a HOUSE puts in as well (also if it puts nothing else; the last one does not)". */
    private static void poisonAtItsBounds() {
        NeighbourSoup x = Check.street("pa9;hl9;hl5;h");
        Check.due("one grain in an empty pot", x.poison(0, 1, 1), 1);
        Check.due("five grains: no more than the ladle", x.poison(0, 5, 1), 5);
        Check.due("six grains: five of them", x.poison(0, 6, 1), 5);
        Check.due("the rest", x.poison(0, 6, 2), 1);
        Check.due("99 grains", x.poison(0, 99, 1), 5);
        Check.due("99 grains", x.poison(0, 99, 2), 94);
        Check.due("99 grains of the one ahead of the last", x.poison(1, 99, 2), 99);
        for (int grains = 1; grains <= 99; grains += 49) {
            Check.due("nobody gets his own", x.poison(1, grains, 1), 0);
            Check.due("nobody ahead gets any", x.poison(1, grains, 0), 0);
            Check.due("the last one puts none in", x.poison(2, grains, 2), 0);
            Check.due("one alone is the last one", Made.alone().poison(0, grains, 0), 0);
        }
        x.order(210);
        Check.due("the last of the order", x.poison(0, 99, 1), 0);
        Check.due("the first of the order: 9 grains are his", x.poison(2, 99, 0) + x.poison(2, 99, 1), 99);
        NeighbourSoup cut = Check.street("pa10;hl0;hl1;h");
        Check.due("a part below one is none: 10 * 1 / 20", cut.poison(0, 10, 1), 0);
        Check.due("99 * 1 / 109", cut.poison(0, 99, 1), 0);
        NeighbourSoup put = Check.street("pa0;ha10l0;hl10;h");
        Check.due("it puts nothing else", put.poison(0, 10, 1), 10);
        put.put(0, 0);
        Check.due("it puts ten as well: 10 * 10 / 20", put.poison(0, 10, 1), 5);
        put.fill(0, 0, 9);
        Check.due("not enough in store", put.poison(0, 10, 1), 10);
    }

    /** Promise 23: "(least 1 .. 99). NONE: no such set, no STREET, out of bounds." */
    private static void guiltyRefused() {
        for (int no : NOT_1_TO_99) {
            Twins.same("guilty(" + no + ", 1, 0)", Made::running, x -> x.guilty(no, 1, 0), -1);
            Twins.same("guilty(1, " + no + ", 0)", Made::running, x -> x.guilty(1, no, 0), -1);
        }
        for (int no : new int[] {-1, 8, 9, 16, 63, 64, MIN, MAX}) {
            Twins.same("guilty(1, 1, " + no + ")", Made::running, x -> x.guilty(1, 1, no), -1);
        }
        Twins.same("guilty(1, 1, 64) of six", Made::six, x -> x.guilty(1, 1, 64), -1);
        Twins.same("guilty(1, 1, 2) of one", Made::alone, x -> x.guilty(1, 1, 2), -1);
        Twins.same("guilty(1, 1, 0) without a street", Made::told, x -> x.guilty(1, 1, 0), -1);
    }

    private static void guiltyAtItsBounds() {
        Twins.same("guilty(1, 1, 0) of one", Made::alone, x -> x.guilty(1, 1, 0), 1);
        Twins.same("guilty(1, 1, 1) of one", Made::alone, x -> x.guilty(1, 1, 1), 0);
        Twins.same("guilty(99, 1, 63) of six", Made::six, x -> x.guilty(99, 1, 63), 0);
        NeighbourSoup x = Check.street("pa9;hl9;hl5;h");
        Check.due("99 of house 1: all of them", x.guilty(99, 99, 4), 2);
        Check.due("99 of house 0: 5 and 94", x.guilty(99, 94, 4), 3);
        Check.due("one more than it gets", x.guilty(99, 95, 4), 2);
        Check.due("just those of a set", x.guilty(99, 5, 6), 1);
        Check.due("not all of them get six", x.guilty(99, 6, 6), 0);
        Check.due("one grain", x.guilty(1, 1, 2), 1);
        Check.due("one grain", x.guilty(1, 1, 4), 2);
        Check.due("the last one harms nobody", x.guilty(1, 1, 0), 4);
        Check.due("two of one grain nobody gets", x.guilty(1, 2, 0), 7);
        Check.due("the whole set", x.guilty(99, 1, 7), 0);
        x.order(210);
        Check.due("house 2 first: nothing is in the pot behind it, 1 gets 5, 0 gets 94", x.guilty(99, 5, 3), 4);
        Check.due("house 1 harms house 0", x.guilty(99, 99, 1), 2);
        Check.due("house 0 is the last one", x.guilty(99, 1, 0), 1);
    }

    /** Promise 24: "NONE: it can't be, no such ones, out of bounds (least 1 .. 99)." */
    private static void harmRefused() {
        for (int no : NO_HOUSE) {
            Twins.same("harm(" + no + ", 1, 0)", Made::running, x -> x.harm(no, 1, 0), -1);
        }
        for (int no : NOT_1_TO_99) {
            Twins.same("harm(1, " + no + ", 0)", Made::running, x -> x.harm(1, no, 0), -1);
            Twins.same("harm(1, " + no + ", 1)", Made::running, x -> x.harm(1, no, 1), -1);
        }
        for (int no : NO_CHOICE) {
            Twins.same("harm(1, 1, " + no + ")", Made::running, x -> x.harm(1, 1, no), -1);
        }
        Twins.same("harm(0, 1, 0) without a street", Made::told, x -> x.harm(0, 1, 0), -1);
        Twins.same("nobody can harm the first", Made::running, x -> x.harm(2, 1, 0), -1);
        Twins.same("nobody can harm the first", Made::running, x -> x.harm(2, 1, 1), -1);
        Twins.same("nobody can harm one alone", Made::alone, x -> x.harm(0, 1, 0), -1);
        Twins.same("nobody can harm one alone", Made::alone, x -> x.harm(0, 1, 1), -1);
    }

    private static void harmAtItsBounds() {
        NeighbourSoup x = Check.street("pa9;hl9;hl5;h");
        Check.due("one grain", x.harm(2, 1, 0), 101);
        Check.due("one grain", x.harm(2, 1, 1), 0);
        Check.due("99 grains", x.harm(2, 99, 0), 199);
        Check.due("99 grains", x.harm(2, 99, 1), 0);
        Check.due("as many as its ladle", x.harm(1, 5, 0), 5);
        Check.due("nobody else gets any", x.harm(1, 5, 1), 0);
        Check.due("more than its ladle", x.harm(1, 6, 0), -1);
        Check.due("more than its ladle", x.harm(1, 6, 1), -1);
        NeighbourSoup much = Check.street("pa1;hl0;hl99;h");
        Check.due("1 + 98 grains are no more than the ladle", much.harm(1, 98, 0), 98);
        Check.due("99 * 99 / 100 is 98", much.harm(1, 99, 0), -1);
        NeighbourSoup all = Check.street("pa0;hl0;hl99;h");
        Check.due("99 of 99", all.harm(1, 99, 0), 99);
        Check.due("to nobody's harm", all.harm(1, 99, 1), 0);
    }

    /** "that by which all others get the least together (of several the least GRAINS, then the lowest HOUSE)". */
    private static void leastHarmOfSeveral() {
        NeighbourSoup x = Check.street("pa0;hl0;hl0;hl0;h");
        Check.due("three houses, 7 grains each", x.harm(3, 7, 0), 7);
        x.order(2103);
        Check.due("the lowest house, not the first", x.harm(3, 7, 0), 7);
        x.order(3210);
        Check.due("the last one can't, 1 is the lowest", x.harm(0, 7, 0), 107);
        NeighbourSoup y = Check.street("pa10;hl0;hl5;h");
        Check.due("2 * 5 / 12 is none for house 1, so 0 is as good as 1", y.harm(2, 2, 0), 2);
        Check.due("to nobody's harm", y.harm(2, 2, 1), 0);
        Check.due("3 * 5 / 13 is one, so 1 is better", y.harm(2, 3, 0), 103);
        Check.due("to nobody's harm", y.harm(2, 3, 1), 0);
    }

    /** Promise 25: "HIDDEN: no such ones, out of bounds (ladle 0 .. 99)"; "not behind the last one". */
    private static void strangerRefused() {
        for (int no : NO_HOUSE) {
            Twins.same("stranger(" + no + ", 9, 0)", Made::running, x -> x.stranger(no, 9, 0), HIDDEN);
        }
        for (int no : new int[] {-1, 100, 101, MIN, MAX}) {
            Twins.same("stranger(0, " + no + ", 0)", Made::running, x -> x.stranger(0, no, 0), HIDDEN);
            Twins.same("stranger(0, " + no + ", 1)", Made::running, x -> x.stranger(0, no, 1), HIDDEN);
        }
        for (int no : NO_CHOICE) {
            Twins.same("stranger(0, 9, " + no + ")", Made::running, x -> x.stranger(0, 9, no), HIDDEN);
        }
        Twins.same("stranger(0, 9, 0) without a street", Made::told, x -> x.stranger(0, 9, 0), HIDDEN);
        Twins.same("stranger(1, 9, 0) of one", Made::alone, x -> x.stranger(1, 9, 0), HIDDEN);
        Twins.same("stranger(6, 9, 0) of six", Made::six, x -> x.stranger(6, 9, 0), HIDDEN);
    }

    private static void strangerAtItsBounds() {
        Twins.same("ahead of one alone, 5 grains", Made::alone, x -> x.stranger(0, 4, 0), 4);
        Twins.same("ahead of one alone: 4 and 4 less", Made::alone, x -> x.stranger(0, 4, 1), 8);
        Twins.same("just all", Made::alone, x -> x.stranger(0, 5, 0), 5);
        Twins.same("no more than all", Made::alone, x -> x.stranger(0, 99, 0), 5);
        Twins.same("all is gone", Made::alone, x -> x.stranger(0, 99, 1), 10);
        Twins.same("no ladle", Made::alone, x -> x.stranger(0, 0, 0), 0);
        Twins.same("no ladle", Made::alone, x -> x.stranger(0, 0, 1), 0);
        NeighbourSoup x = Check.street("pa10;ha30l4;hl3;hl2");
        x.put(0, 0);
        Check.due("ahead of all", x.stranger(0, 99, 0), 10);
        Check.due("ahead of all: 10 and 10 less", x.stranger(0, 99, 1), 20);
        Check.due("behind house 0 and its put", x.stranger(1, 99, 0), 16);
        Check.due("ahead of the last", x.stranger(2, 99, 0), 13);
        Check.due("ahead of the last", x.stranger(2, 12, 0), 12);
        Check.due("it is no house: the last takes all that is left", x.stranger(2, 12, 1), 24);
        Check.due("a part below one is none", Check.street("pa5b5;h").stranger(0, 1, 0), 0);
        x.days(6);
        Check.due("on a sunday", x.stranger(0, 99, 0), 20);
        NeighbourSoup barred = Check.street("pa10;hn0k1;h");
        Check.due("meals can be more by it", barred.stranger(0, 10, 1), 10 - 30);
    }

    /** Promise 26: "HIDDEN: no STREET, no such what." */
    private static void exchangeRefused() {
        for (int no : NO_CHOICE) {
            Twins.same("exchange(" + no + ")", Made::running, x -> x.exchange(no), HIDDEN);
        }
        Twins.same("exchange(0) without a street", Made::told, x -> x.exchange(0), HIDDEN);
        Twins.same("exchange(1) without a street", Made::bare, x -> x.exchange(1), HIDDEN);
    }

    /** "(none, too; of several none, then the lowest one, then the other)", "(0; NONE: none)". */
    private static void exchangeAtItsBounds() {
        Twins.same("one alone", Made::alone, x -> x.exchange(0), -1);
        Twins.same("one alone", Made::alone, x -> x.exchange(1), 10);
        NeighbourSoup alike = Check.street("pa30;hl10;hl10;hl10");
        Check.due("ladles alike: none", alike.exchange(0), -1);
        Check.due("ladles alike: none", alike.exchange(1), 20);
        NeighbourSoup two = Check.street("pa10;hl9;hl5");
        Check.due("one grain less for the worst-off", two.exchange(0), 1);
        Check.due("five each", two.exchange(1), 10);
        NeighbourSoup six = Check.street("pa60;hl10;hl10;hl10;hl10;hl20;hl10");
        Check.due("the last one gets nothing; with its ladle ten", six.exchange(0), 45);
        Check.due("ten each", six.exchange(1), 20);
        NeighbourSoup several = Check.street("pa40;hl20;hl10;hl10;hl10");
        Check.due("with 3 alone: the last one's ladle is not asked", several.exchange(0), 3);
        Check.due("ten each", several.exchange(1), 20);
        NeighbourSoup lowest = Check.street("pa20;hl10;hl10;hl5;hl5");
        Check.due("0 or 1 with 3: 5, 10, 5 and none left; 0 with 2 likewise", lowest.exchange(0), -1);
        NeighbourSoup other = Check.street("pa21;hl10;hl10;hl5;hl5");
        Check.due("0 with 3 and 1 with 3 leave 1 each", other.exchange(0), 3);
        Check.due("1 and 1 once more", other.exchange(1), 2);
        NeighbourSoup second = Check.street("pa50;hl1;hl7;hl9;hl9;hl9");
        Check.liking(second, "y:i=0?s;y:99");
        Check.due("2, 3 or 4 for the first: the lowest other", second.exchange(0), 2);
        Check.due("nine for the first", second.exchange(1), 9);
        second.order(40123);
        Check.due("the first has nine: none", second.exchange(0), -1);
        NeighbourSoup firstOne = Check.street("pa50;hl9;hl9;hl1");
        Check.liking(firstOne, "y:i=0?s;y:99");
        firstOne.order(201);
        Check.due("0 or 1 for the first: the lowest one", firstOne.exchange(0), 2);
        Check.liking(six, "y:0-1000*1000");
        Check.due("of all alike none", six.exchange(0), -1);
        Check.due("of all alike none", six.exchange(1), -1000000);
    }

    /** Promise 27: "NONE: no such HOUSE, it puts nothing." */
    private static void lastsRefused() {
        for (int no : NO_HOUSE) {
            Twins.same("lasts(" + no + ")", Made::running, x -> x.lasts(no), -1);
        }
        Twins.same("lasts(0) without a street", Made::told, x -> x.lasts(0), -1);
        Twins.same("lasts(5) of six puts nothing", Made::six, x -> x.lasts(5), -1);
        Twins.same("lasts(6) of six", Made::six, x -> x.lasts(6), -1);
    }

    /** "behind how many NOONS (99 at most)", "(0: not even now; the last one of the ORDER uses none)". */
    private static void lastsAtItsBounds() {
        for (int grains : new int[] {1, 2, 10, 30}) {
            NeighbourSoup x = Check.street("h;h;lg" + grains);
            x.put(0, 2);
            x.put(1, 2);
            for (int store = 0; store <= 99; store++) {
                x.fill(0, 2, store);
                x.fill(1, 2, store);
                int noons = 0;
                for (int rest = store; rest >= grains; rest -= grains) {
                    noons++;
                }
                Check.due("lasts " + store + " by " + grains, x.lasts(0), noons);
                Check.due("the last one", x.lasts(1), store >= grains ? 99 : 0);
            }
        }
        Twins.same("one alone is the last one", Made::alone, x -> x.lasts(0), 99);
        NeighbourSoup x = Check.street("ha30;ha30");
        x.put(0, 0);
        x.days(2);
        Check.due("ten are left", x.lasts(0), 1);
        x.days(1);
        Check.due("not even now", x.lasts(0), 0);
        x.put(0, 9);
        Check.due("it puts nothing", x.lasts(0), -1);
    }

    /** Promise 28: "LEFT. NONE: no STREET": from none to as many as can be. */
    private static void left() {
        Twins.same("left() without a street", Made::told, NeighbourSoup::left, -1);
        Twins.same("left() without a street", Made::bare, NeighbourSoup::left, -1);
        Twins.same("left() of one", Made::alone, NeighbourSoup::left, 5);
        Check.due("nothing is left", Check.street("pa9;hl9;h").left(), 0);
        Check.due("one is left", Check.street("pa9;hl8;h").left(), 1);
        Check.due("nothing is there", Check.street("pa0;h").left(), 0);
        NeighbourSoup most = Check.street("pa99b99c99d99e99;ha99l0;ha99l0;ha99l0;ha99l0;ha99l0;ha99l0;lg30t0");
        Check.due("all", most.left(), 495);
        for (int house = 0; house < 6; house++) {
            most.put(house, 0);
        }
        Check.due("all and five puts", most.left(), 645);
        most.days(6);
        Check.due("on a sunday, stores used up", most.left(), 990);
        for (int house = 0; house < 6; house++) {
            most.fill(house, 0, 99);
        }
        Check.due("as many as can be", most.left(), 1140);
    }

    /** "all that was of another one is gone": what more houses got there is not counted here. */
    private static void nothingOfAnotherStreet() {
        NeighbourSoup x = Check.street("pa99;ha99l0;hl0;hl0;hl0;hl0;hl0");
        x.order(13452);
        x.put(0, 0);
        Check.due("house 2 takes all", x.left(), 109);
        Check.due("house 2 gets all poison", x.poison(0, 99, 2), 99);
        Check.street(x, "pa9;hl4;hl0");
        Check.due("poison of two houses", x.guilty(99, 99, 2), 1);
        Check.due("nobody else is there", x.harm(1, 99, 0), 99);
        Check.due("nobody else gets any", x.harm(1, 99, 1), 0);
        Check.due("meals of two houses", x.puts(0, 1), 18);
        Check.due("the least of two", x.puts(1, 1), 8);
        Check.due("orders of two", x.orders(0, 0), 1);
        Check.due("exchange of two", x.exchange(0), -1);
        Check.due("less of two", x.stranger(0, 5, 1), 10);
        Check.due("left of two", x.left(), 5);
        Check.due("about two", x.about(-1, 1), 0);
    }
}
