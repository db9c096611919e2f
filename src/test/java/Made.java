/** Objects in states that a refused call could spoil. */
final class Made {
    private static final String BLANKS = " ".repeat(20);

    private Made() {
    }

    static NeighbourSoup bare() {
        return new NeighbourSoup();
    }

    /** No street, but a liking, and a street's bytes on the tape. */
    static NeighbourSoup told() {
        NeighbourSoup x = new NeighbourSoup();
        Check.feed(x, "y:s*3");
        x.text(1);
        Check.feed(x, "pb9;hl3;h");
        return x;
    }

    /** Three houses: two likings, one of which holds, five days of which two are behind the image, bytes on the tape. */
    static NeighbourSoup running() {
        NeighbourSoup x = Check.street(StateTest.STREET);
        Check.liking(x, "y:l*2+n+t");
        Check.liking(x, "y:h>80?s;y:i-n");
        x.order(102);
        x.put(0, 0);
        x.put(1, 1);
        x.put(2, 3);
        x.days(3);
        x.image();
        x.fill(2, 3, 44);
        x.order(201);
        x.put(0, 1);
        x.days(2);
        x.fill(1, 1, 61);
        Check.feed(x, "hb7;h;h;h");
        return x;
    }

    /** Four likings, a tape of 160 bytes. */
    static NeighbourSoup full() {
        NeighbourSoup x = new NeighbourSoup();
        for (int i = 0; i < 4; i++) {
            Check.tape(x, "y:" + i + "*100+s");
            x.text(1);
        }
        Check.street(x, "h;h");
        x.liking(3);
        Check.feed(x, "y:s+1" + " ".repeat(15));
        for (int i = 0; i < 7; i++) {
            Check.feed(x, BLANKS);
        }
        return x;
    }

    /** On day 999, thirty days of which can be undone. */
    static NeighbourSoup late() {
        NeighbourSoup x = Check.street("pa9;ha99;h;lg1");
        for (int i = 0; i < 33; i++) {
            x.days(30);
        }
        x.put(0, 0);
        x.days(9);
        x.image();
        return x;
    }

    /** Six houses on day 1. */
    static NeighbourSoup six() {
        NeighbourSoup x = Check.street("pa60;ha30;hb30;hc30;hd30;he30;h");
        x.order(543210);
        for (int house = 0; house < 5; house++) {
            x.put(house, house);
        }
        x.days(1);
        return x;
    }

    /** One house alone on day 1. */
    static NeighbourSoup alone() {
        NeighbourSoup x = Check.street("pa5;ha30");
        x.put(0, 0);
        x.days(1);
        return x;
    }
}
