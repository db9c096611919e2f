/** Promises 6 to 17: house, liking, order, put, fill, meal, share, heat, first, days, undo, eaten. */
public final class StateTest {
    /** Without puts: meals 20, 25, -10; with puts 0 and 1 of houses 0 and 1: 20, 24, -15. */
    static final String STREET = "p a40 b20; h a30 l30 k0 n1; h b25 l20 k1; h c9 l5 k2 n0; l g8 t1 c15";

    private StateTest() {
    }

    public static void main(String[] args) {
        house();
        liking();
        worth();
        order();
        put();
        fill();
        meal();
        sunday();
        share();
        heat();
        first();
        days();
        lastDay();
        undo();
        undoOfFills();
        eaten();
        Check.finish();
    }

    private static void house() {
        NeighbourSoup x = Check.street("h a1 b2 c3 d4 e5 l6 k2 n3;h;h l0");
        int[] want = {1, 2, 3, 4, 5, 6, 2, 3, 9, 0};
        int[] usual = {0, 0, 0, 0, 0, 20, 0, 5, 9, 1};
        for (int what = 0; what <= 9; what++) {
            Check.due("house(0, " + what + ")", x.house(0, what), want[what]);
            Check.due("house(1, " + what + ")", x.house(1, what), usual[what]);
        }
        Check.due("ladle 0", x.house(2, 5), 0);
        x.put(1, 4);
        x.order(201);
        Check.due("put", x.house(1, 8), 4);
        Check.due("place", x.house(1, 9), 2);
        Check.due("place", x.house(2, 9), 0);
        Check.noSuchElement(x, 3, 0);
        Check.noSuchElement(x, -1, 0);
        Check.noSuchElement(x, Integer.MAX_VALUE, 9);
        Check.noSuchElement(x, 0, 10);
        Check.noSuchElement(x, 0, -1);
        Check.noSuchElement(x, 0, Integer.MIN_VALUE);
    }

    private static void liking() {
        NeighbourSoup x = Check.street(STREET);
        Check.due("liking(0) without one", x.liking(0), false);
        Check.due("liking(-1)", x.liking(-1), true);
        Check.liking(x, "y:l>n&h>80?l*2+h;y:[s-n]/2");
        Check.due("holds", x.count(4), 0);
        Check.due("meal(0)", x.meal(0), 140);
        Check.due("meal(1)", x.meal(1), 97);
        Check.due("meal(2)", x.meal(2), 2);
        Check.liking(x, "y:i*100+t*10+n");
        x.order(120);
        x.days(3);
        Check.due("place, day, none barred", x.meal(1), 30);
        Check.due("place, day", x.meal(0) / 10, 24);
        Check.due("liking(2)", x.liking(2), false);
        Check.due("liking(-2)", x.liking(-2), false);
        Check.due("still holds", x.count(4), 1);
        Check.due("liking(-1)", x.liking(-1), true);
        Check.due("none holds", x.count(4), -1);
        Check.due("meal by none", x.meal(1), 25);
    }

    private static void worth(String text, int want) {
        NeighbourSoup x = Check.street("pa7;hn0;h");
        Check.liking(x, text);
        Check.due("worth of " + text, x.meal(0), want);
    }

    private static void worth() {
        worth("y:l", 7);
        worth("y:n", 7);
        worth("y:s", 7);
        worth("y:h", 100);
        worth("y:2+3*4", 14);
        worth("y:2*3+4", 10);
        worth("y:[2+3]*4", 20);
        worth("y:1-2-3", -4);
        worth("y:1-[2-3]", 2);
        worth("y:8/4/2", 1);
        worth("y:8/[4/2]", 4);
        worth("y:7/2*2", 6);
        worth("y:7*2/4", 3);
        worth("y:7/0", 0);
        worth("y:7/[7-s]+1", 1);
        worth("y:[0-7]/2", -3);
        worth("y:7/[0-2]", -3);
        worth("y:9999*9999", 1000000);
        worth("y:9999*9999-1", 999999);
        worth("y:0-9999*9999", -1000000);
        worth("y:0-9999*9999-9999", -1000000);
        worth("y:9999*100+9999-9999", 990001);
        worth("y:9999*9999*9999/1000", 1000);
        worth("y:[0-9999*9999]*[0-9999*9999]", 1000000);
        worth("y:1000*1000=1000*1001?1;y:2", 1);
        worth("y:1=2?5", 0);
        worth("y:1=2?5;y:1<2?6;y:7", 6);
        worth("y:4;y:5", 4);
        worth("y:2>1?3;y:4", 3);
        worth("y:1>1?3;y:4", 4);
        worth("y:1<1?3;y:4", 4);
        worth("y:1=1|1=2&1=2?5;y:6", 5);
        worth("y:1=2&1=2|1=1?5;y:6", 5);
        worth("y:1=2&(1=2|1=1)?5;y:6", 6);
        worth("y:!1=1|1=1?5;y:6", 5);
        worth("y:!1=2&1=2?5;y:6", 6);
        worth("y:!(1=2|1=1)?5;y:6", 6);
        worth("y:!!1=1?5;y:6", 5);
        worth("y:1=2|1=2|1=1?5;y:6", 5);
        worth("y:1=1&1=1&1=2?5;y:6", 6);
        worth("y:[1+2]*2=6?5;y:6", 5);
    }

    private static void order() {
        NeighbourSoup x = Check.street(STREET);
        Check.due("at first", x.count(9), 12);
        int[] good = {12, 21, 102, 120, 201, 210};
        for (int order : good) {
            Check.due("order(" + order + ")", x.order(order), true);
            Check.due("it is", x.count(9), order);
        }
        int[] wrong = {0, 1, 11, 13, 211, 3210, 1012, 312, -12, -210, 1000012, Integer.MAX_VALUE, Integer.MIN_VALUE};
        for (int order : wrong) {
            Check.due("order(" + order + ")", x.order(order), false);
            Check.due("as it was", x.count(9), 210);
        }
        Check.due("the first takes from the full pot", x.share(2, 0) + x.share(2, 1), 4);
        NeighbourSoup one = Check.street("h");
        Check.due("order(0) of one", one.order(0), true);
        Check.due("order(1) of one", one.order(1), false);
        NeighbourSoup six = Check.street("h;h;h;h;h;h");
        Check.due("order of six", six.order(543210), true);
        Check.due("order of six", six.order(12345), true);
        Check.due("order of six", six.count(9), 12345);
        Check.due("order of six", six.order(5012345), false);
    }

    private static void put() {
        NeighbourSoup x = Check.street(STREET);
        Check.due("at first", x.count(10), 999);
        for (int stuff = 0; stuff < 5; stuff++) {
            Check.due("put(1, " + stuff + ")", x.put(1, stuff), true);
            Check.due("puts", x.count(10), 909 + 10 * stuff);
        }
        Check.due("put(0, 0)", x.put(0, 0), true);
        Check.due("puts", x.count(10), 49);
        int[] wrong = {5, 6, 8, 10, -1, Integer.MIN_VALUE};
        for (int stuff : wrong) {
            Check.due("put(1, " + stuff + ")", x.put(1, stuff), false);
        }
        Check.due("put(3, 0)", x.put(3, 0), false);
        Check.due("put(-1, 0)", x.put(-1, 0), false);
        Check.due("as it was", x.count(10), 49);
        Check.due("put(1, 9)", x.put(1, 9), true);
        Check.due("puts", x.count(10), 99);
    }

    private static void fill() {
        NeighbourSoup x = Check.street(STREET);
        Check.due("fill", x.fill(0, 4, 99), true);
        Check.due("store", x.house(0, 4), 99);
        Check.due("fill", x.fill(0, 4, 0), true);
        Check.due("store", x.house(0, 4), 0);
        Check.due("fill with 100", x.fill(0, 0, 100), false);
        Check.due("fill with -1", x.fill(0, 0, -1), false);
        Check.due("fill stuff 5", x.fill(0, 5, 1), false);
        Check.due("fill stuff -1", x.fill(1, -1, 1), false);
        Check.due("fill house 3", x.fill(3, 0, 1), false);
        Check.due("fill house -1", x.fill(-1, 0, 1), false);
        Check.due("as it was", x.house(0, 0), 30);
        Check.due("as it was", x.house(1, 1), 25);
        x.put(0, 0);
        Check.due("meal(1)", x.meal(1), 24);
        x.fill(0, 0, 8);
        Check.due("just enough", x.meal(1), 24);
        x.fill(0, 0, 7);
        Check.due("not enough", x.meal(1), 25);
    }

    private static void meal() {
        NeighbourSoup x = Check.street(STREET);
        Check.due("meal(0)", x.meal(0), 20);
        Check.due("meal(1)", x.meal(1), 25);
        Check.due("meal(2)", x.meal(2), -10);
        x.put(0, 0);
        x.put(1, 1);
        x.put(2, 2);
        Check.due("meal(0)", x.meal(0), 20);
        Check.due("meal(1)", x.meal(1), 24);
        Check.due("meal(2)", x.meal(2), -15);
        Check.due("meal(3)", x.meal(3), NeighbourSoup.HIDDEN);
        Check.due("meal(-1)", x.meal(-1), NeighbourSoup.HIDDEN);
        Check.due("nothing is eaten by asking", x.eaten(0), 0);
        Check.due("nothing is put by asking", x.house(0, 0), 30);
        NeighbourSoup alone = Check.street("pa9b9;hl1k1n0");
        alone.fill(0, 1, 99);
        alone.put(0, 1);
        Check.due("one alone takes all", alone.meal(0), 18 + 9 - 27);
        Check.due("and breaks no law", alone.first(), -1);
    }

    private static void sunday() {
        NeighbourSoup x = Check.street("pa10b5;hl6;h");
        int[] sundays = {6, 13, 20};
        for (int day = 0; day < 22; day++) {
            boolean sunday = day == sundays[0] || day == sundays[1] || day == sundays[2];
            Check.due("share on day " + day, x.share(0, 0) + x.share(1, 0), sunday ? 20 : 10);
            Check.due("share on day " + day, x.share(0, 1) + x.share(1, 1), sunday ? 10 : 5);
            x.days(1);
        }
        Check.due("eaten over three sundays", x.eaten(0), 19 * (6 + 4) + 3 * (6 + 4));
    }

    private static void share() {
        NeighbourSoup x = Check.street(STREET);
        Check.due("share(0, 0)", x.share(0, 0), 20);
        Check.due("share(0, 1)", x.share(0, 1), 10);
        Check.due("share(1, 0)", x.share(1, 0), 13);
        Check.due("share(1, 1)", x.share(1, 1), 6);
        Check.due("share(2, 0)", x.share(2, 0), 7);
        Check.due("share(2, 1)", x.share(2, 1), 4);
        Check.due("share(2, 4)", x.share(2, 4), 0);
        x.put(1, 1);
        Check.due("share(1, 1) is taken ahead of its put", x.share(1, 1), 6);
        Check.due("share(2, 1)", x.share(2, 1), 12);
        Check.due("share(0, 5)", x.share(0, 5), -1);
        Check.due("share(0, -1)", x.share(0, -1), -1);
        Check.due("share(3, 0)", x.share(3, 0), -1);
        Check.due("share(-1, 0)", x.share(-1, 0), -1);
        NeighbourSoup all = Check.street("pa10b5;hl15;h");
        Check.due("no more than the ladle: all", all.share(0, 0) * 10 + all.share(0, 1), 105);
        Check.due("nothing is left", all.share(1, 0), 0);
        NeighbourSoup none = Check.street("pa10b5;hl0;h");
        Check.due("no ladle", none.share(0, 0), 0);
        Check.due("no ladle", none.share(1, 1), 5);
    }

    private static void heat() {
        NeighbourSoup x = Check.street(STREET);
        Check.due("heat(0)", x.heat(0), 100);
        Check.due("heat(1)", x.heat(1), 85);
        Check.due("heat(2)", x.heat(2), 70);
        x.order(210);
        Check.due("heat(2)", x.heat(2), 100);
        Check.due("heat(0)", x.heat(0), 70);
        Check.due("heat(3)", x.heat(3), -1);
        Check.due("heat(-1)", x.heat(-1), -1);
        NeighbourSoup cold = Check.street("h;h;h;h;h;h;lc20");
        Check.due("heat(4)", cold.heat(4), 20);
        Check.due("heat(5)", cold.heat(5), 0);
        NeighbourSoup even = Check.street("h;h;lc0");
        Check.due("heat(1)", even.heat(1), 100);
    }

    private static void first() {
        NeighbourSoup x = Check.street("ha20;ha20;ha20;ha20");
        Check.due("nobody puts", x.first(), -1);
        x.put(1, 0);
        Check.due("one puts", x.first(), -1);
        x.put(3, 0);
        Check.due("the last one puts nothing in", x.first(), -1);
        x.put(2, 0);
        Check.due("house 2", x.first(), 2);
        x.put(0, 0);
        Check.due("house 1", x.first(), 1);
        x.fill(0, 0, 9);
        Check.due("house 0 has not enough", x.first(), 2);
        x.fill(2, 0, 9);
        Check.due("nor has house 2", x.first(), -1);
        x.fill(2, 0, 10);
        x.order(3210);
        Check.due("by the order", x.first(), 2);
        x.order(1302);
        Check.due("by the order", x.first(), 3);
        NeighbourSoup free = Check.street("ha20;ha20;h;lt0");
        free.put(0, 0);
        free.put(1, 0);
        Check.due("twice is free", free.first(), -1);
    }

    private static void days() {
        NeighbourSoup x = Check.street(STREET);
        x.put(0, 0);
        x.put(1, 1);
        x.put(2, 2);
        Check.due("days(0)", x.days(0), -1);
        Check.due("days(31)", x.days(31), -1);
        Check.due("days(-1)", x.days(-1), -1);
        Check.due("days(max)", x.days(Integer.MAX_VALUE), -1);
        Check.due("day", x.count(3), 0);
        Check.due("days(1)", x.days(1), 1);
        Check.due("store", x.house(0, 0), 22);
        Check.due("store", x.house(1, 1), 17);
        Check.due("the last one uses none", x.house(2, 2), 9);
        Check.due("days(3)", x.days(3), 4);
        Check.due("store", x.house(0, 0), 6);
        Check.due("store", x.house(1, 1), 1);
        Check.due("eaten(0)", x.eaten(0), 80);
        Check.due("eaten(1)", x.eaten(1), 97);
        Check.due("eaten(2)", x.eaten(2), -55);
        Check.due("days(30)", x.days(30), 34);
        Check.due("puts stay", x.count(10), 12);
    }

    private static void lastDay() {
        NeighbourSoup x = Check.street("h;h");
        for (int i = 1; i <= 33; i++) {
            Check.due("days(30)", x.days(30), 30 * i);
        }
        Check.due("days(10) at 990", x.days(10), -1);
        Check.due("drawn(10) at 990", x.drawn(10, 1), -1);
        Check.due("none went on", x.count(3), 990);
        Check.due("no put was drawn", x.count(10), 99);
        Check.due("days(9)", x.days(9), 999);
        Check.due("days(1) at 999", x.days(1), -1);
        Check.due("drawn(1) at 999", x.drawn(1, 1), -1);
        Check.due("day", x.count(3), 999);
        Check.due("undo", x.undo(), 998);
        Check.due("days(1)", x.days(1), 999);
    }

    private static void undo() {
        NeighbourSoup x = Check.street(STREET);
        x.put(0, 0);
        x.put(1, 1);
        x.days(4);
        Check.due("count(8)", x.count(8), 4);
        Check.due("undo", x.undo(), 3);
        Check.due("store", x.house(0, 0), 6);
        Check.due("eaten(1)", x.eaten(1), 72);
        Check.due("undo", x.undo(), 2);
        Check.due("store", x.house(0, 0), 14);
        Check.due("store", x.house(1, 1), 9);
        Check.due("eaten(2)", x.eaten(2), -30);
        Check.due("count(8)", x.count(8), 2);
        Check.due("puts stay", x.count(10), 19);
        x.undo();
        Check.due("undo", x.undo(), 0);
        Check.due("store", x.house(0, 0), 30);
        Check.due("undo", x.undo(), -1);
        Check.due("day", x.count(3), 0);
        x.days(30);
        x.days(5);
        Check.due("thirty at most", x.count(8), 30);
        for (int day = 34; day >= 5; day--) {
            Check.due("undo", x.undo(), day);
        }
        Check.due("no more", x.undo(), -1);
        Check.due("eaten(0) of five days", x.eaten(0), 100);
        Check.due("count(8)", x.count(8), 0);
        x.days(2);
        Check.due("undo", x.undo(), 6);
    }

    private static void undoOfFills() {
        NeighbourSoup x = Check.street("ha50;h;lg5");
        x.put(0, 0);
        x.days(1);
        x.fill(0, 0, 90);
        x.fill(1, 3, 7);
        x.order(10);
        x.days(1);
        x.order(1);
        x.days(1);
        x.put(0, 2);
        Check.due("undo", x.undo(), 2);
        Check.due("store ahead of day 2", x.house(0, 0), 90);
        Check.due("undo", x.undo(), 1);
        Check.due("store ahead of day 1", x.house(0, 0), 90);
        Check.due("undo", x.undo(), 0);
        Check.due("store ahead of day 0", x.house(0, 0), 50);
        Check.due("store ahead of day 0", x.house(1, 3), 0);
        Check.due("puts stay", x.count(10), 29);
        Check.due("order stays", x.count(9), 1);
    }

    private static void eaten() {
        NeighbourSoup x = Check.street(STREET);
        Check.due("eaten(0) at first", x.eaten(0), 0);
        x.days(2);
        Check.due("eaten(0)", x.eaten(0), 40);
        Check.due("eaten(2)", x.eaten(2), -20);
        Check.liking(x, "y:9999*9999");
        x.days(2);
        Check.due("by the liking that holds", x.eaten(0), 2000040);
        Check.liking(x, "y:t");
        x.days(1);
        Check.due("by the day that is", x.eaten(0), 2000044);
        Check.due("eaten(3)", x.eaten(3), NeighbourSoup.HIDDEN);
        Check.due("eaten(-1)", x.eaten(-1), NeighbourSoup.HIDDEN);
    }
}
