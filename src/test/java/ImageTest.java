/** Promises 29 to 32: drawn, image, back, count. */
public final class ImageTest {
    /** Of each stuff fifty in the first two houses, so that each put can be. */
    private static final String FULL = "ha50b50c50d50e50;ha50b50c50d50e50;h;lg5";

    private ImageTest() {
    }

    public static void main(String[] args) {
        drawn();
        drawnOnMoreDays();
        drawnIsUndone();
        image();
        imageOfAnotherStreet();
        count();
        Check.finish();
    }

    /** By seed 0 the draws are 5 0 1, 4 5 5, 2 5 0; by seed -5 they are 2 1 3, 1 3 5. */
    private static void drawn() {
        NeighbourSoup x = Check.street(FULL);
        Check.due("drawn(0, 0)", x.drawn(0, 0), -1);
        Check.due("drawn(31, 0)", x.drawn(31, 0), -1);
        Check.due("drawn(-1, 0)", x.drawn(-1, 0), -1);
        Check.due("puts", x.count(10), 999);
        Check.due("drawn(1, 0)", x.drawn(1, 0), 1);
        Check.due("puts stay", x.count(10), 901);
        Check.due("store", x.house(1, 0), 45);
        Check.due("the seed begins anew", x.drawn(1, 0), 2);
        Check.due("puts", x.count(10), 901);
        Check.due("store", x.house(1, 0), 40);
        Check.due("drawn(1, -5)", x.drawn(1, -5), 3);
        Check.due("puts", x.count(10), 213);
        Check.due("drawn(30, max)", x.drawn(30, Long.MAX_VALUE), 33);
        Check.due("drawn(30, min)", x.drawn(30, Long.MIN_VALUE), 63);
    }

    private static void drawnOnMoreDays() {
        NeighbourSoup x = Check.street(FULL);
        Check.due("drawn(3, 0)", x.drawn(3, 0), 3);
        Check.due("puts", x.count(10), 290);
        int[] first = {50, 50, 45, 50, 45};
        int[] second = {45, 50, 50, 50, 50};
        for (int stuff = 0; stuff < 5; stuff++) {
            Check.due("store of house 0", x.house(0, stuff), first[stuff]);
            Check.due("store of house 1", x.house(1, stuff), second[stuff]);
        }
        Check.due("eaten", x.eaten(0), 3 * 40);
        NeighbourSoup y = Check.street(FULL);
        y.drawn(2, -5);
        Check.due("puts", y.count(10), 139);
        Check.due("stores", y.house(0, 2) + y.house(0, 1) + y.house(1, 1) + y.house(1, 3), 180);
    }

    private static void drawnIsUndone() {
        NeighbourSoup x = Check.street(FULL);
        x.drawn(3, 0);
        Check.due("count(8)", x.count(8), 3);
        Check.due("undo", x.undo(), 2);
        Check.due("store", x.house(0, 2), 50);
        Check.due("store", x.house(0, 4), 45);
        Check.due("puts stay", x.count(10), 290);
        x.undo();
        Check.due("undo", x.undo(), 0);
        Check.due("store", x.house(1, 0), 50);
        Check.due("undo", x.undo(), -1);
    }

    private static void image() {
        NeighbourSoup x = Check.street(StateTest.STREET);
        Check.due("back without one", x.back(), -1);
        x.put(0, 0);
        x.put(1, 1);
        x.order(102);
        x.days(1);
        int eaten = x.eaten(1);
        Check.due("image", x.image(), 1);
        Check.due("days can be undone still", x.count(8), 1);
        x.put(0, 9);
        x.put(2, 4);
        x.order(210);
        x.fill(2, 3, 77);
        Check.liking(x, "y:5");
        x.days(4);
        Check.due("back", x.back(), 1);
        Check.due("day", x.count(3), 1);
        Check.due("order", x.count(9), 102);
        Check.due("puts", x.count(10), 19);
        Check.due("eaten", x.eaten(1), eaten);
        Check.due("store", x.house(2, 3), 0);
        Check.due("store", x.house(0, 0), 22);
        Check.due("the liking stays", x.count(4), 0);
        Check.due("no day can be undone", x.count(8), 0);
        Check.due("undo", x.undo(), -1);
        x.days(2);
        x.put(0, 3);
        Check.due("back again", x.back(), 1);
        Check.due("puts", x.count(10), 19);
        x.days(3);
        Check.due("another image", x.image(), 4);
        x.days(1);
        Check.due("instead of the one ahead", x.back(), 4);
    }

    private static void imageOfAnotherStreet() {
        NeighbourSoup x = Check.street("h;h");
        x.image();
        Check.feed(x, "x");
        Check.due("no street", x.text(0), -1);
        Check.due("the image is there still", x.back(), 0);
        Check.street(x, "h");
        Check.due("it was of another street", x.back(), -1);
        Check.due("image", x.image(), 0);
        Check.due("back", x.back(), 0);
    }

    private static void count() {
        NeighbourSoup x = Check.street("h;h;h;h;h;h;lg30t0c20");
        x.days(2);
        x.order(102345);
        x.put(5, 3);
        x.put(0, 1);
        Check.liking(x, "y:1");
        Check.tape(x, "abc");
        int[] want = {6, 1, 3, 2, 0, 30, 0, 20, 2, 102345, 199993};
        for (int what = 0; what <= 10; what++) {
            Check.due("count(" + what + ")", x.count(what), want[what]);
        }
        Check.due("count(11)", x.count(11), NeighbourSoup.HIDDEN);
        Check.due("count(-1)", x.count(-1), NeighbourSoup.HIDDEN);
        Check.due("count(max)", x.count(Integer.MAX_VALUE), NeighbourSoup.HIDDEN);
        Check.due("count(min)", x.count(Integer.MIN_VALUE), NeighbourSoup.HIDDEN);
    }
}
