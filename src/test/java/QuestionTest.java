/** Promises 18 to 28: puts, orders, bestFor, about, poison, guilty, harm, stranger, exchange, lasts, left. */
public final class QuestionTest {
    private static final int HIDDEN = NeighbourSoup.HIDDEN;

    private QuestionTest() {
    }

    public static void main(String[] args) {
        puts();
        putsByTheLaw();
        orders();
        bestFor();
        about();
        poison();
        guilty();
        harm();
        stranger();
        exchange();
        lasts();
        left();
        Check.finish();
    }

    /** What is apart leaves all as it was. */
    private static void unchanged(NeighbourSoup x, int order, int puts) {
        Check.due("day", x.count(3), 0);
        Check.due("order", x.count(9), order);
        Check.due("puts", x.count(10), puts);
        Check.due("undone", x.count(8), 0);
    }

    private static void puts() {
        NeighbourSoup x = Check.street(StateTest.STREET);
        Check.due("puts(0, 0): the last one's least is 2", x.puts(0, 0), 912);
        Check.due("puts(0, 1)", x.puts(0, 1), 43);
        Check.due("puts(1, 0)", x.puts(1, 0), 912);
        Check.due("puts(1, 1)", x.puts(1, 1), -2);
        x.put(0, 3);
        x.put(1, 4);
        Check.due("whatever the puts are", x.puts(0, 0), 912);
        x.fill(1, 1, 7);
        x.fill(2, 2, 7);
        Check.due("not enough in store", x.puts(0, 0), 999);
        Check.due("not enough in store", x.puts(0, 1), 35);
        unchanged(x, 12, 349);
        Check.due("puts(2, 0)", x.puts(2, 0), HIDDEN);
        Check.due("puts(-1, 0)", x.puts(-1, 0), HIDDEN);
        Check.due("puts(0, 2)", x.puts(0, 2), HIDDEN);
        Check.due("puts(0, -1)", x.puts(0, -1), HIDDEN);
        Check.due("puts of six", Check.street("h;h;h;h;h;h").puts(0, 0), HIDDEN);
        Check.due("puts of five", Check.street("h;h;h;h;h").puts(0, 0), 99999);
        Check.due("puts of five", Check.street("h;h;h;h;he10").puts(0, 0), 99994);
        Check.due("puts of one", Check.street("h").puts(1, 1), 100);
    }

    private static void putsByTheLaw() {
        String street = "pa10;hb30l5k1;hb30l5k1;hk1";
        NeighbourSoup x = Check.street(street);
        Check.due("of two alike the least", x.puts(0, 0), 199);
        Check.due("puts(0, 1)", x.puts(0, 1), 30);
        Check.due("puts(1, 0)", x.puts(1, 0), 199);
        Check.due("puts(1, 1)", x.puts(1, 1), 5);
        x.order(102);
        Check.due("the least by houses, not by places", x.puts(0, 0), 199);
        NeighbourSoup free = Check.street(street + ";lt0");
        Check.due("twice is free", free.puts(0, 0), 119);
        Check.due("twice is free", free.puts(0, 1), 50);
        free.days(6);
        Check.due("on a sunday there is more", free.puts(0, 1) > 50, true);
    }

    private static void orders() {
        NeighbourSoup x = Check.street("pa10;hl8;hl3");
        Check.due("orders(0, 0): the least of two", x.orders(0, 0), 1);
        Check.due("orders(0, 1)", x.orders(0, 1), 20);
        Check.due("orders(1, 0)", x.orders(1, 0), 10);
        Check.due("orders(1, 1)", x.orders(1, 1), 6);
        x.order(10);
        Check.due("whatever the order is", x.orders(0, 0), 1);
        unchanged(x, 10, 99);
        Check.due("orders(2, 0)", x.orders(2, 0), HIDDEN);
        Check.due("orders(-1, 0)", x.orders(-1, 0), HIDDEN);
        Check.due("orders(0, 2)", x.orders(0, 2), HIDDEN);
        Check.due("orders(0, -1)", x.orders(0, -1), HIDDEN);
        NeighbourSoup twice = Check.street("pa10;ha20l5;ha20l5;h");
        twice.put(0, 0);
        twice.put(1, 0);
        Check.due("house 1 breaks the law", twice.first(), 1);
        Check.due("the law is not asked", twice.orders(0, 0), 12);
        Check.due("the law is not asked", twice.orders(0, 1), 60);
        Check.due("orders(1, 1)", twice.orders(1, 1), 10);
        NeighbourSoup six = Check.street("pa60;hl10;hl10;hl10;hl10;hl10;hl10");
        Check.due("orders of six", six.orders(1, 0), 12345);
        Check.liking(six, "y:i*[s+l]");
        Check.due("places count", six.orders(0, 1), 20 * 15);
        NeighbourSoup late = Check.street("pa10;hl1;hl1;hk1n0l2");
        Check.due("the one that bars goes where it gets least", late.orders(1, 0), 21);
    }

    private static void bestFor() {
        NeighbourSoup x = Check.street(StateTest.STREET);
        Check.due("bestFor(1, 2, 0)", x.bestFor(1, 2, 0), 1);
        Check.due("bestFor(1, 2, 1)", x.bestFor(1, 2, 1), -2);
        Check.due("what is not in store puts nothing; the least", x.bestFor(0, 1, 0), 1);
        Check.due("bestFor(0, 1, 1)", x.bestFor(0, 1, 1), 25);
        Check.due("bestFor(2, 0, 0): the last one", x.bestFor(2, 0, 0), 0);
        Check.due("bestFor(2, 0, 1)", x.bestFor(2, 0, 1), 20);
        x.fill(0, 0, 99);
        x.fill(1, 0, 99);
        x.put(0, 0);
        NeighbourSoup full = Check.street("pa50;ha99b99c99d99e99l10;hn0;hn0k1");
        Check.due("nothing is best for one ahead: the least", full.bestFor(1, 0, 0), 0);
        Check.liking(full, "y:0-s");
        Check.due("nothing is best", full.bestFor(0, 2, 0), 9);
        Check.due("nothing is best", full.bestFor(0, 2, 1), -20);
        full.put(0, 1);
        Check.due("whatever its put is", full.bestFor(0, 2, 0), 9);
        unchanged(full, 12, 199);
        Check.due("alike", x.bestFor(1, 1, 0), HIDDEN);
        Check.due("bestFor(3, 1, 0)", x.bestFor(3, 1, 0), HIDDEN);
        Check.due("bestFor(-1, 1, 0)", x.bestFor(-1, 1, 0), HIDDEN);
        Check.due("bestFor(1, 3, 0)", x.bestFor(1, 3, 0), HIDDEN);
        Check.due("bestFor(1, -1, 0)", x.bestFor(1, -1, 0), HIDDEN);
        Check.due("bestFor(0, 1, 2)", x.bestFor(0, 1, 2), HIDDEN);
        Check.due("bestFor(0, 1, -1)", x.bestFor(0, 1, -1), HIDDEN);
        bestForAgainstTheLaw();
    }

    private static void bestForAgainstTheLaw() {
        NeighbourSoup x = Check.street("pa10;hb30l5k1;hb30l5k1;hk1");
        x.put(0, 1);
        Check.due("the law is not asked", x.bestFor(1, 2, 0), 1);
        Check.due("the law is not asked", x.bestFor(1, 2, 1), 38);
    }

    private static void about() {
        NeighbourSoup x = Check.street(StateTest.STREET);
        Check.due("about(0, 1)", x.about(0, 1), 20);
        Check.due("about(0, 2)", x.about(0, 2), 42);
        Check.due("about(1, 2)", x.about(1, 2), 50);
        Check.due("about(2, 2)", x.about(2, 2), -15);
        Check.due("about(-1, 2)", x.about(-1, 2), 2);
        Check.due("about(0, 0)", x.about(0, 0), HIDDEN);
        Check.due("about(0, 31)", x.about(0, 31), HIDDEN);
        Check.due("about(-1, 31)", x.about(-1, 31), HIDDEN);
        Check.due("about(3, 1)", x.about(3, 1), HIDDEN);
        Check.due("about(-2, 1)", x.about(-2, 1), HIDDEN);
        unchanged(x, 12, 999);
        NeighbourSoup even = Check.street("pa60;hl20;hl20;hl20");
        Check.due("of several the lowest", even.about(-1, 3), 0);
        Check.liking(even, "y:i*100+t");
        even.order(201);
        even.days(3);
        Check.due("places 1, 0, 2, 1 on days 3 to 6", even.about(0, 4), 400 + 18);
        Check.due("places 0, 2, 1, 0", even.about(2, 4), 300 + 18);
        Check.due("of thirty days", even.about(1, 30), 3000 + 3 * 30 + 435);
        Check.due("the least", even.about(-1, 4), 2);
        NeighbourSoup stores = Check.street("pa0;ha10l5;h");
        stores.put(0, 0);
        Check.due("stores are as they are each time", stores.about(1, 3), 40);
        Check.due("first on noons 0, 2, 4 and on the sunday", Check.street("pa10;hl99;h").about(0, 7), 20 * 3 + 40);
        Check.due("a sunday is in it", Check.street("pa10;hl99;hl0").about(0, 7), 20 * 7 + 20);
    }

    private static void poison() {
        NeighbourSoup x = Check.street(StateTest.STREET);
        Check.due("poison(0, 10, 0)", x.poison(0, 10, 0), 0);
        Check.due("poison(0, 10, 1)", x.poison(0, 10, 1), 5);
        Check.due("poison(0, 10, 2)", x.poison(0, 10, 2), 5);
        Check.due("poison(1, 10, 0)", x.poison(1, 10, 0), 0);
        Check.due("poison(1, 99, 2)", x.poison(1, 99, 2), 99);
        Check.due("poison(2, 10, 2): the last one does not", x.poison(2, 10, 2), 0);
        x.put(0, 0);
        Check.due("beside a put: 10 * 20 / 48", x.poison(0, 10, 1), 4);
        Check.due("poison(0, 0, 1)", x.poison(0, 0, 1), -1);
        Check.due("poison(0, 100, 1)", x.poison(0, 100, 1), -1);
        Check.due("poison(3, 1, 1)", x.poison(3, 1, 1), -1);
        Check.due("poison(-1, 1, 1)", x.poison(-1, 1, 1), -1);
        Check.due("poison(0, 1, 3)", x.poison(0, 1, 3), -1);
        Check.due("poison(0, 1, -1)", x.poison(0, 1, -1), -1);
        Check.due("no meal has it", x.meal(1), 24);
        Check.due("no share has it", x.share(2, 0) + x.share(2, 1), 19);
        unchanged(x, 12, 99);
        NeighbourSoup all = Check.street("pa10;hl5;hl8;h");
        Check.due("it is in all grains: 9 * 8 / 14", all.poison(0, 9, 1), 5);
        Check.due("no more than the ladle: all", all.poison(0, 3, 1), 3);
    }

    private static void guilty() {
        NeighbourSoup x = Check.street(StateTest.STREET);
        Check.due("guilty(10, 5, 6)", x.guilty(10, 5, 6), 1);
        Check.due("guilty(10, 5, 4)", x.guilty(10, 5, 4), 2);
        Check.due("guilty(10, 5, 0)", x.guilty(10, 5, 0), 4);
        Check.due("guilty(10, 6, 0)", x.guilty(10, 6, 0), 5);
        Check.due("guilty(10, 10, 4)", x.guilty(10, 10, 4), 2);
        Check.due("guilty(10, 11, 0)", x.guilty(10, 11, 0), 7);
        Check.due("guilty(10, 5, 7)", x.guilty(10, 5, 7), 0);
        Check.due("guilty(99, 99, 4)", x.guilty(99, 99, 4), 2);
        Check.due("guilty(10, 5, 8)", x.guilty(10, 5, 8), -1);
        Check.due("guilty(10, 5, -1)", x.guilty(10, 5, -1), -1);
        Check.due("guilty(0, 5, 0)", x.guilty(0, 5, 0), -1);
        Check.due("guilty(100, 5, 0)", x.guilty(100, 5, 0), -1);
        Check.due("guilty(10, 0, 0)", x.guilty(10, 0, 0), -1);
        Check.due("guilty(10, 100, 0)", x.guilty(10, 100, 0), -1);
        unchanged(x, 12, 999);
    }

    private static void harm() {
        NeighbourSoup x = Check.street(StateTest.STREET);
        Check.due("harm(2, 5, 0)", x.harm(2, 5, 0), 105);
        Check.due("harm(2, 5, 1)", x.harm(2, 5, 1), 0);
        Check.due("harm(2, 99, 0)", x.harm(2, 99, 0), 199);
        Check.due("harm(1, 5, 0)", x.harm(1, 5, 0), 10);
        Check.due("harm(1, 5, 1)", x.harm(1, 5, 1), 5);
        Check.due("harm(1, 15, 0)", x.harm(1, 15, 0), 90);
        Check.due("harm(1, 15, 1)", x.harm(1, 15, 1), 75);
        Check.due("harm(1, 16, 0)", x.harm(1, 16, 0), -1);
        Check.due("harm(1, 16, 1)", x.harm(1, 16, 1), -1);
        Check.due("harm(0, 1, 0)", x.harm(0, 1, 0), -1);
        Check.due("harm(2, 0, 0)", x.harm(2, 0, 0), -1);
        Check.due("harm(2, 100, 0)", x.harm(2, 100, 0), -1);
        Check.due("harm(3, 1, 0)", x.harm(3, 1, 0), -1);
        Check.due("harm(-1, 1, 0)", x.harm(-1, 1, 0), -1);
        Check.due("harm(2, 1, 2)", x.harm(2, 1, 2), -1);
        Check.due("harm(2, 1, -1)", x.harm(2, 1, -1), -1);
        unchanged(x, 12, 999);
        NeighbourSoup thick = Check.street("pa0;hl0;hl0;h");
        Check.due("nobody else can get any: the lowest house", thick.harm(2, 3, 0), 3);
        thick.order(102);
        Check.due("the lowest house, not the first", thick.harm(2, 3, 0), 3);
        Check.due("harm", thick.harm(2, 3, 1), 0);
    }

    private static void stranger() {
        NeighbourSoup x = Check.street(StateTest.STREET);
        Check.due("stranger(0, 30, 0)", x.stranger(0, 30, 0), 30);
        Check.due("stranger(0, 30, 1)", x.stranger(0, 30, 1), 15);
        Check.due("stranger(1, 10, 0): cut", x.stranger(1, 10, 0), 9);
        Check.due("stranger(1, 10, 1)", x.stranger(1, 10, 1), -9);
        Check.due("stranger(2, 99, 0)", x.stranger(2, 99, 0), 11);
        Check.due("stranger(2, 99, 1)", x.stranger(2, 99, 1), -10);
        Check.due("stranger(0, 0, 0)", x.stranger(0, 0, 0), 0);
        Check.due("stranger(0, 0, 1)", x.stranger(0, 0, 1), 0);
        Check.due("stranger(3, 1, 0)", x.stranger(3, 1, 0), HIDDEN);
        Check.due("stranger(-1, 1, 0)", x.stranger(-1, 1, 0), HIDDEN);
        Check.due("stranger(0, 100, 0)", x.stranger(0, 100, 0), HIDDEN);
        Check.due("stranger(0, -1, 0)", x.stranger(0, -1, 0), HIDDEN);
        Check.due("stranger(0, 1, 2)", x.stranger(0, 1, 2), HIDDEN);
        Check.due("stranger(0, 1, -1)", x.stranger(0, 1, -1), HIDDEN);
        Check.due("it is gone", x.meal(0), 20);
        x.order(210);
        Check.due("places of the order: 60 - 4 are there", x.stranger(1, 99, 0), 56);
        unchanged(x, 210, 999);
        Check.liking(x, "y:h+i");
        Check.due("heat and places are of houses alone", x.stranger(1, 20, 1), 0);
    }

    private static void exchange() {
        NeighbourSoup x = Check.street(StateTest.STREET);
        Check.due("exchange(0): none", x.exchange(0), -1);
        Check.due("exchange(1)", x.exchange(1), -10);
        NeighbourSoup two = Check.street("pa10;hl8;hl3");
        Check.due("exchange(0)", two.exchange(0), 1);
        Check.due("exchange(1)", two.exchange(1), 6);
        Check.due("ladles are as they were", two.house(0, 5) * 10 + two.house(1, 5), 83);
        unchanged(two, 1, 99);
        NeighbourSoup three = Check.street("pa10;hl4;hl6;hl3");
        Check.due("0 and 2: 3, 6, 1; 1 and 2: 4, 3, 3", three.exchange(0), 12);
        Check.due("exchange(1)", three.exchange(1), 6);
        three.order(210);
        Check.due("by the order 3, 6, 1: with 0 it is 4, 6, 0; 1 and 0: 3, 4, 3", three.exchange(0), 1);
        Check.due("exchange(1)", three.exchange(1), 6);
        NeighbourSoup alike = Check.street("pa12;hl9;hl3;hl3;h");
        Check.due("nobody can mend it: none", alike.exchange(0), -1);
        NeighbourSoup several = Check.street("pa20;hl10;hl9;hl2;hl2");
        Check.due("of several the lowest one, then the other", several.exchange(0), 3);
        Check.due("exchange(1)", several.exchange(1), 4);
        Check.due("exchange(2)", x.exchange(2), HIDDEN);
        Check.due("exchange(-1)", x.exchange(-1), HIDDEN);
        Check.due("one alone", Check.street("h").exchange(0), -1);
    }

    private static void lasts() {
        NeighbourSoup x = Check.street(StateTest.STREET);
        Check.due("it puts nothing", x.lasts(0), -1);
        x.put(0, 0);
        x.put(1, 0);
        x.put(2, 2);
        Check.due("lasts(0)", x.lasts(0), 3);
        Check.due("not even now", x.lasts(1), 0);
        Check.due("the last one uses none", x.lasts(2), 99);
        x.fill(2, 2, 7);
        Check.due("the last one has not enough", x.lasts(2), 0);
        x.fill(2, 2, 9);
        x.order(210);
        Check.due("not the last one any more", x.lasts(2), 1);
        Check.due("the last one uses none", x.lasts(0), 99);
        Check.due("lasts(3)", x.lasts(3), -1);
        Check.due("lasts(-1)", x.lasts(-1), -1);
        NeighbourSoup long1 = Check.street("ha99b98;h;lg1");
        long1.put(0, 0);
        Check.due("ninety-nine", long1.lasts(0), 99);
        long1.put(0, 1);
        Check.due("ninety-eight", long1.lasts(0), 98);
        long1.days(1);
        Check.due("ninety-seven", long1.lasts(0), 97);
    }

    private static void left() {
        NeighbourSoup x = Check.street(StateTest.STREET);
        Check.due("left", x.left(), 11);
        x.put(0, 0);
        x.put(1, 1);
        Check.due("left", x.left(), 27);
        x.order(120);
        Check.due("left for house 0: 60 - 19 + 8 = 49, less 2 and 2", x.left(), 49 - 4);
        Check.due("one alone", Check.street("pa1b2c3d4e5;hl0").left(), 15);
    }
}
