import java.util.ArrayList;
import java.util.List;

/** Promises 6 to 17 and the terms of a noon: each sentence that names a bound, at it and one beyond it. */
public final class StateBoundTest {
    private static final int HIDDEN = NeighbourSoup.HIDDEN;
    private static final int MIN = Integer.MIN_VALUE;
    private static final int MAX = Integer.MAX_VALUE;
    /** Numbers that are no house of three. */
    private static final int[] NO_HOUSE = {-1, 3, 6, -2, 10, MIN, MAX};
    private static final int[] NO_STUFF = {-1, 5, 6, 8, 9, 10, MIN, MAX};

    private StateBoundTest() {
    }

    public static void main(String[] args) {
        house();
        likingThatHolds();
        orderOfThree();
        orderOfAnyNumber();
        put();
        fill();
        numbersWithinAMillion();
        divisionCutsTowardsZero();
        firstClauseThatHolds();
        lettersAtTheirBounds();
        sundays();
        ladleAndGrains();
        ladleIsCut();
        lastTakesAll();
        putNeedsEnough();
        takesAheadOfItsPut();
        mealWithoutLiking();
        refusedQuestions();
        heat();
        first();
        daysAtOnce();
        lastDay();
        storesAreLess();
        thirtyUndone();
        undoneLikeAStack();
        undoneWithoutDays();
        eaten();
        Check.finish();
    }

    /** Promise 6: "0 .. 4 STORES ... 9 its place", "NoSuchElementException: no such ones." */
    private static void house() {
        for (int house : NO_HOUSE) {
            Twins.same("house(" + house + ", 0)", Made::running, x -> x.house(house, 0), Twins.THROWN);
            Twins.same("house(" + house + ", 9)", Made::running, x -> x.house(house, 9), Twins.THROWN);
        }
        for (int what : new int[] {-1, 10, -2, 11, MIN, MAX}) {
            Twins.same("house(0, " + what + ")", Made::running, x -> x.house(0, what), Twins.THROWN);
            Twins.same("house(2, " + what + ")", Made::running, x -> x.house(2, what), Twins.THROWN);
        }
        Twins.same("house(0, 0) without a street", Made::told, x -> x.house(0, 0), Twins.THROWN);
        Twins.same("house(0, 9)", Made::running, x -> x.house(0, 9), 1);
        Twins.same("house(2, 9)", Made::running, x -> x.house(2, 9), 0);
        Twins.same("house(0, 8)", Made::running, x -> x.house(0, 8), 1);
        Twins.same("house(2, 3): two days of 8 less", Made::running, x -> x.house(2, 3), 28);
        Twins.same("house(0, 0): three days of 8 less", Made::running, x -> x.house(0, 0), 6);
        Twins.same("house(5, 9) of six", Made::six, x -> x.house(5, 9), 0);
        Twins.same("house(6, 9) of six", Made::six, x -> x.house(6, 9), Twins.THROWN);
        Twins.same("house(0, 0) of one", Made::alone, x -> x.house(0, 0), 30);
        Twins.same("house(1, 0) of one", Made::alone, x -> x.house(1, 0), Twins.THROWN);
    }

    /** Promise 7: "(NONE: none). False: no such one, no STREET." */
    private static void likingThatHolds() {
        for (int liking : new int[] {-2, 2, 3, 4, MIN, MAX}) {
            Twins.same("liking(" + liking + ") of two", Made::running, x -> Twins.bit(x.liking(liking)), 0);
        }
        Twins.same("liking(4) of four", Made::full, x -> Twins.bit(x.liking(4)), 0);
        Twins.same("liking(3) that holds", Made::full, x -> Twins.bit(x.liking(3)), 1);
        Twins.same("liking(0) of none", Made::six, x -> Twins.bit(x.liking(0)), 0);
        Twins.same("liking(-1) that holds", Made::six, x -> Twins.bit(x.liking(-1)), 1);
        Twins.same("liking(-1) without a street", Made::told, x -> Twins.bit(x.liking(-1)), 0);
        Twins.same("liking(0) without a street", Made::told, x -> Twins.bit(x.liking(0)), 0);
        NeighbourSoup x = Made.full();
        for (int liking = 0; liking < 4; liking++) {
            Check.due("liking(" + liking + ")", x.liking(liking), true);
            Check.due("it holds", x.count(4), liking);
            Check.due("meal by it", x.meal(0), liking * 100 + 20);
        }
        Check.due("liking(-1)", x.liking(-1), true);
        Check.due("none holds", x.count(4), -1);
        Check.due("meal by none", x.meal(0), 40);
    }

    private static boolean isOrderOf(int houses, int order) {
        String digits = "" + order;
        while (digits.length() < houses) {
            digits = "0" + digits;
        }
        boolean is = order >= 0 && digits.length() == houses;
        for (int house = 0; is && house < houses; house++) {
            is = digits.indexOf('0' + house) >= 0;
        }
        return is;
    }

    /** Promise 8: "digits to the base 10, HOUSES, the first the highest (each once ...)", "False: no such one." */
    private static void orderOfThree() {
        for (int order = -250; order <= 3300; order++) {
            NeighbourSoup y = Check.street("h;h;h");
            boolean is = isOrderOf(3, order);
            Check.due("order(" + order + ")", y.order(order), is);
            Check.due("the order", y.count(9), is ? order : 12);
        }
        NeighbourSoup x = Check.street("h;h;h");
        x.order(201);
        Check.due("the first is the highest", x.house(2, 9) * 100 + x.house(0, 9) * 10 + x.house(1, 9), 12);
        for (int order : new int[] {-12, -1, 11, 112, 13, 123, 1012, 9012, 2147480012, MIN, MAX}) {
            Twins.same("order(" + order + ")", Made::running, s -> Twins.bit(s.order(order)), 0);
        }
        Twins.same("order(201) that is", Made::running, s -> Twins.bit(s.order(201)), 1);
        Twins.same("order(0) without a street", Made::told, s -> Twins.bit(s.order(0)), 0);
    }

    private static void orderOfAnyNumber() {
        String street = "h";
        int[] greatest = {0, 10, 210, 3210, 43210, 543210};
        int[] least = {0, 1, 12, 123, 1234, 12345};
        int[] beyond = {1, 11, 211, 3211, 43211, 543211};
        int[] longer = {10, 210, 3210, 43210, 543210, 6543210};
        for (int n = 0; n < 6; n++) {
            NeighbourSoup x = Check.street(street);
            Check.due("at first by numbers", x.count(9), least[n]);
            Check.due("the greatest order", x.order(greatest[n]), true);
            Check.due("one beyond", x.order(beyond[n]), false);
            Check.due("a house more", x.order(longer[n]), false);
            Check.due("a digit more ahead", x.order(least[n] + 1000000), false);
            Check.due("less than none", x.order(-1), false);
            Check.due("as it was", x.count(9), greatest[n]);
            Check.due("the least order", x.order(least[n]), true);
            Check.due("it is", x.count(9), least[n]);
            street += ";h";
        }
        for (int order = -20; order <= 200; order++) {
            Check.due("order(" + order + ") of one", Made.alone().order(order), order == 0);
        }
    }

    /** Promise 9: "The PUT of a HOUSE (9: nothing). False: no such ones." */
    private static void put() {
        for (int stuff : NO_STUFF) {
            if (stuff != 9) {
                Twins.same("put(0, " + stuff + ")", Made::running, x -> Twins.bit(x.put(0, stuff)), 0);
            }
        }
        for (int house : NO_HOUSE) {
            Twins.same("put(" + house + ", 0)", Made::running, x -> Twins.bit(x.put(house, 0)), 0);
            Twins.same("put(" + house + ", 9)", Made::running, x -> Twins.bit(x.put(house, 9)), 0);
        }
        Twins.same("put(0, 9) without a street", Made::told, x -> Twins.bit(x.put(0, 9)), 0);
        Twins.same("put(6, 0) of six", Made::six, x -> Twins.bit(x.put(6, 0)), 0);
        NeighbourSoup x = Check.street("h;h;h;h;h;h");
        Check.due("at first nothing", x.count(10), 999999);
        for (int house = 0; house < 6; house++) {
            Check.due("put(" + house + ", 0)", x.put(house, 0), true);
        }
        Check.due("the least puts", x.count(10), 0);
        Check.due("house 0 is the highest", x.put(0, 4) && x.put(5, 3), true);
        Check.due("house 0 is the highest", x.count(10), 400003);
        Check.due("nothing again", x.put(0, 9), true);
        Check.due("nothing again", x.count(10), 900003);
        Check.due("a put needs no store", x.house(5, 3), 0);
    }

    /** Promise 10: "A STORE is told (0 .. 99). False: no such ones, out of bounds." */
    private static void fill() {
        for (int grains : new int[] {-1, 100, 101, MIN, MAX}) {
            Twins.same("fill(0, 0, " + grains + ")", Made::running, x -> Twins.bit(x.fill(0, 0, grains)), 0);
        }
        for (int stuff : NO_STUFF) {
            Twins.same("fill(1, " + stuff + ", 9)", Made::running, x -> Twins.bit(x.fill(1, stuff, 9)), 0);
        }
        for (int house : NO_HOUSE) {
            Twins.same("fill(" + house + ", 0, 9)", Made::running, x -> Twins.bit(x.fill(house, 0, 9)), 0);
        }
        Twins.same("fill(0, 0, 9) without a street", Made::told, x -> Twins.bit(x.fill(0, 0, 9)), 0);
        NeighbourSoup x = Check.street("h;h;h;h;h;h");
        for (int house = 0; house < 6; house++) {
            for (int stuff = 0; stuff < 5; stuff++) {
                Check.due("fill with 99", x.fill(house, stuff, 99), true);
                Check.due("99", x.house(house, stuff), 99);
                Check.due("fill with less", x.fill(house, stuff, 10 * house + stuff), true);
            }
        }
        for (int house = 0; house < 6; house++) {
            for (int stuff = 0; stuff < 5; stuff++) {
                Check.due("each by itself", x.house(house, stuff), 10 * house + stuff);
            }
        }
        Check.due("a fill is no day", x.count(8), 0);
    }

    /** The worth of a liking for the first of two houses: it takes 7 grains that it likes and bars, on day 0. */
    private static void worth(String text, int want) {
        NeighbourSoup x = Check.street("pa7;hn0;h");
        Check.liking(x, text);
        Check.due("worth of " + text, x.meal(0), want);
    }

    /** "Behind each sign numbers are within -1,000,000 .. 1,000,000". */
    private static void numbersWithinAMillion() {
        worth("y:999*1000+999", 999999);
        worth("y:999*1000+1000", 1000000);
        worth("y:999*1000+1001", 1000000);
        worth("y:999*1000+1001-1", 999999);
        worth("y:1000*1000", 1000000);
        worth("y:1000*1001", 1000000);
        worth("y:1000*1001/1000", 1000);
        worth("y:0-999*1000-999", -999999);
        worth("y:0-999*1000-1000", -1000000);
        worth("y:0-999*1000-1001", -1000000);
        worth("y:0-999*1000-1001+1", -999999);
        worth("y:[0-1000]*1000", -1000000);
        worth("y:[0-1000]*1001", -1000000);
        worth("y:[0-1000]*1001/1000", -1000);
        worth("y:[0-1000*1000]-[1000*1000]", -1000000);
        worth("y:1000*1000-[0-1000*1000]", 1000000);
        worth("y:1000*1000*[0-1000*1000]", -1000000);
        worth("y:[0-1000*1000]*[0-1000*1000]", 1000000);
        worth("y:9999*9999*9999*9999*9999", 1000000);
        worth("y:1000*1000+1=1000*1000?1;y:2", 1);
        worth("y:1000*1000>999*1000+999?1;y:2", 1);
        worth("y:1000*1000-1+1+1-1", 999999);
    }

    /** "/ cuts towards 0, by 0 gives 0". */
    private static void divisionCutsTowardsZero() {
        worth("y:7/7", 1);
        worth("y:6/7", 0);
        worth("y:13/7", 1);
        worth("y:14/7", 2);
        worth("y:[0-6]/7", 0);
        worth("y:[0-7]/7", -1);
        worth("y:[0-13]/7", -1);
        worth("y:13/[0-7]", -1);
        worth("y:[0-13]/[0-7]", 1);
        worth("y:0/7", 0);
        worth("y:7/0", 0);
        worth("y:0/0", 0);
        worth("y:7/[s-l]", 0);
        worth("y:5+7/0*3", 5);
        worth("y:[0-1000*1000]/[0-1]", 1000000);
        worth("y:1/t", 0);
    }

    /** "the SUM of the first CLAUSE whose CONDITION holds (or has none), 0 without". */
    private static void firstClauseThatHolds() {
        worth("y:1>1?5", 0);
        worth("y:1>1?5;y:2>2?6;y:3<3?7", 0);
        worth("y:1>1?5;y:2>1?6;y:3=3?7", 6);
        worth("y:1=1?5;y:2>1?6", 5);
        worth("y:1>1?5;y:6;y:7", 6);
        worth("y:5;y:1=1?6", 5);
        worth("y:1>1?5;y:2>2?6;y:7", 7);
        worth("y:s=7?0;y:9", 0);
        String[] signs = {"<", "=", ">"};
        for (int a = 1; a <= 3; a++) {
            for (int sign = 0; sign < 3; sign++) {
                boolean holds = Integer.compare(a, 2) == sign - 1;
                worth("y:" + a + signs[sign] + "2?5;y:6", holds ? 5 : 6);
            }
        }
    }

    /** "n that it BARS (0, if none)", h from 100 to 0, "i its place in the ORDER (0 ..)", "t the DAY" up to 999. */
    private static void lettersAtTheirBounds() {
        NeighbourSoup none = Check.street("pa9b4;hk1;h");
        Check.liking(none, "y:n*100+l*10+s");
        Check.due("it bars none, likes 4 of 13", none.meal(0), 53);
        NeighbourSoup same = Check.street("pa9b4;hk1n1;h");
        Check.liking(same, "y:n*100+l*10+s");
        Check.due("it likes what it bars", same.meal(0), 453);
        NeighbourSoup other = Check.street("pa9b4;hk4n0;h");
        Check.liking(other, "y:n*100+l*10+s");
        Check.due("of what it likes there is none", other.meal(0), 913);
        NeighbourSoup six = Check.street("h;h;h;h;h;h;lc20");
        Check.liking(six, "y:h*10+i");
        six.order(453210);
        Check.due("the first", six.meal(4), 1000);
        Check.due("the last", six.meal(0), 5);
        NeighbourSoup late = Made.late();
        Check.liking(late, "y:t");
        Check.due("day 999", late.meal(0), 999);
        late.undo();
        Check.due("day 998", late.meal(1), 998);
        Check.street(late, "h");
        late.liking(0);
        Check.due("day 0", late.meal(0), 0);
    }

    /** "on a SUNDAY, each DAY whose number and 1 can be divided by 7, twice as many". */
    private static void sundays() {
        NeighbourSoup x = Check.street("pa1b99;hl99;h");
        for (int day = 0; day <= 60; day++) {
            boolean sunday = day % 7 == 6;
            Check.due("grains of day " + day, x.share(0, 1) + x.share(1, 1), sunday ? 198 : 99);
            Check.due("grains of day " + day, x.share(0, 0) + x.share(1, 0), sunday ? 2 : 1);
            x.days(1);
        }
        NeighbourSoup late = Made.late();
        for (int day = 998; day >= 990; day--) {
            Check.due("undo", late.undo(), day);
            int poured = late.house(0, 0) > 0 ? 1 : 0;
            Check.due("left on day " + day, late.left() + late.share(0, 0), (day == 993 ? 18 : 9) + poured);
        }
        NeighbourSoup poured = Check.street("pa0;ha99l0;h");
        poured.put(0, 0);
        poured.days(6);
        Check.due("a put is not twice as many on a sunday", poured.left(), 10);
    }

    private static void shares(String street, int a, int b) {
        NeighbourSoup x = Check.street(street);
        Check.due("a of " + street, x.share(0, 0), a);
        Check.due("b of " + street, x.share(0, 1), b);
    }

    /** "if there are no more GRAINS than that, all": one less than the ladle, just as many, one more. */
    private static void ladleAndGrains() {
        shares("pa10b5;hl16;h", 10, 5);
        shares("pa10b5;hl15;h", 10, 5);
        shares("pa10b5;hl14;h", 9, 4);
        shares("pa10b5;hl1;h", 0, 0);
        shares("pa10b5;hl0;h", 0, 0);
        shares("pa1;hl1;h", 1, 0);
        shares("pa1;hl0;h", 0, 0);
        shares("pa0;hl0;h", 0, 0);
        shares("pa0;hl99;h", 0, 0);
        shares("pa99;hl99;h", 99, 0);
        shares("pa99b1;hl99;h", 98, 0);
    }

    /** "else of each STUFF GRAINS times LADLE by all GRAINS, cut". */
    private static void ladleIsCut() {
        NeighbourSoup x = Check.street("pa99b99c99d99e99;hl99;h");
        for (int stuff = 0; stuff < 5; stuff++) {
            Check.due("99 * 99 / 495", x.share(0, stuff), 19);
            Check.due("the rest", x.share(1, stuff), 80);
        }
        x.days(6);
        Check.due("198 * 99 / 990", x.share(0, 4), 19);
        Check.due("the rest", x.share(1, 4), 179);
        NeighbourSoup y = Check.street("pa2b2c2;hl3;h");
        Check.due("2 * 3 / 6", y.share(0, 0) * 100 + y.share(0, 1) * 10 + y.share(0, 2), 111);
        NeighbourSoup z = Check.street("pa2b2c2;hl2;h");
        Check.due("2 * 2 / 6", z.share(0, 0) + z.share(0, 1) + z.share(0, 2), 0);
    }

    /** "the last HOUSE takes all that is left", whatever its ladle is. */
    private static void lastTakesAll() {
        for (int ladle : new int[] {0, 1, 9, 10, 11, 99}) {
            Check.due("alone with ladle " + ladle, Check.street("pa10;hl" + ladle).share(0, 0), 10);
            Check.due("behind one", Check.street("pa10;hl4;hl" + ladle).share(1, 0), 6);
        }
        NeighbourSoup x = Check.street("pa10;hl0;hl4;hl99");
        x.order(210);
        Check.due("ladle 99 is first", x.share(2, 0), 10);
        Check.due("nothing is left", x.share(0, 0), 0);
        x.order(102);
        Check.due("the last of the order", x.share(2, 0), 6);
    }

    /** "if it is not the last one, it puts in GRAINS (as many as told) ..., if its STORE has so many (else nothing)". */
    private static void putNeedsEnough() {
        for (int grains : new int[] {1, 2, 29, 30}) {
            for (int store = grains - 1; store <= grains + 1; store++) {
                NeighbourSoup x = Check.street("pa10;hb" + store + "l0;h;lg" + grains);
                x.put(0, 1);
                int put = store >= grains ? grains : 0;
                Check.due("put " + grains + " of " + store, x.share(1, 1), put);
                Check.due("left", x.left(), 10 + put);
                x.days(1);
                Check.due("store", x.house(0, 1), store - put);
            }
        }
        NeighbourSoup last = Check.street("pa10;h;hb30");
        last.put(1, 1);
        Check.due("the last one puts nothing", last.share(1, 1), 0);
        last.days(1);
        Check.due("and uses nothing", last.house(1, 1), 30);
        last.order(10);
        Check.due("but for another order", last.share(0, 1), 10);
        NeighbourSoup other = Check.street("pa10;ha99l0;h");
        other.put(0, 1);
        Check.due("another store is not asked", other.left(), 10);
    }

    private static void takesAheadOfItsPut() {
        NeighbourSoup x = Check.street("pa0;hb30l99;hl4;h");
        x.put(0, 1);
        Check.due("it takes, then it puts", x.share(0, 1), 0);
        Check.due("the next one takes of it", x.share(1, 1), 4);
        Check.due("the last one takes the rest", x.share(2, 1), 6);
    }

    /** "none at first: all GRAINS, those that it LIKES once more, less three times those that it BARS". */
    private static void mealWithoutLiking() {
        Check.due("likes a, bars none", Check.street("pa9b4;h").meal(0), 13 + 9);
        Check.due("likes b", Check.street("pa9b4;hk1").meal(0), 13 + 4);
        Check.due("likes e: none is there", Check.street("pa9b4;hk4").meal(0), 13);
        Check.due("bars a", Check.street("pa9b4;hk1n0").meal(0), 13 + 4 - 27);
        Check.due("bars e: none is there", Check.street("pa9b4;hn4").meal(0), 13 + 9);
        Check.due("likes what it bars", Check.street("pa9b4;hn0").meal(0), 13 + 9 - 27);
        Check.due("nothing is there", Check.street("pa0;hn0").meal(0), 0);
    }

    /** Promises 11 to 13 and 17: "no such HOUSE", "no such ones". */
    private static void refusedQuestions() {
        for (int house : NO_HOUSE) {
            Twins.same("meal(" + house + ")", Made::running, x -> x.meal(house), HIDDEN);
            Twins.same("share(" + house + ", 0)", Made::running, x -> x.share(house, 0), -1);
            Twins.same("heat(" + house + ")", Made::running, x -> x.heat(house), -1);
            Twins.same("eaten(" + house + ")", Made::running, x -> x.eaten(house), HIDDEN);
        }
        for (int stuff : NO_STUFF) {
            Twins.same("share(0, " + stuff + ")", Made::running, x -> x.share(0, stuff), -1);
        }
        Twins.same("meal(2), first and hot: 5 of 60, cut", Made::running, x -> x.meal(2), 4);
        Twins.same("share(2, 0): 40 * 5 / 60", Made::running, x -> x.share(2, 0), 3);
        Twins.same("share(0, 4)", Made::running, x -> x.share(0, 4), 0);
        Twins.same("heat(1), the last", Made::running, x -> x.heat(1), 70);
        Twins.same("meal(5) of six: 20 and 20", Made::six, x -> x.meal(5), 40);
        Twins.same("meal(6) of six", Made::six, x -> x.meal(6), HIDDEN);
        Twins.same("share(6, 0) of six", Made::six, x -> x.share(6, 0), -1);
        Twins.same("heat(6) of six", Made::six, x -> x.heat(6), -1);
        Twins.same("eaten(6) of six", Made::six, x -> x.eaten(6), HIDDEN);
    }

    /** "HEAT is 100", "HEAT is COLDER less (0 at least)" behind each house. */
    private static void heat() {
        for (int colder : new int[] {0, 1, 19, 20}) {
            NeighbourSoup x = Check.street("h;h;h;h;h;h;lc" + colder);
            x.order(543210);
            for (int place = 0; place < 6; place++) {
                Check.due("heat at place " + place + " by " + colder, x.heat(5 - place), 100 - colder * place);
            }
        }
        NeighbourSoup x = Check.street("h;h;lc20");
        x.days(30);
        Check.due("each noon begins with 100", x.heat(0), 100);
        Check.due("whether it puts or not", x.heat(1), 80);
    }

    /** Promise 14: "NONE: nobody, no STREET"; "if TWICE is 1 and that STUFF was put in by one ahead of it". */
    private static void first() {
        Twins.same("first() without a street", Made::told, NeighbourSoup::first, -1);
        Twins.same("first() of all", Made::running, NeighbourSoup::first, -1);
        Twins.same("first() of one", Made::alone, NeighbourSoup::first, -1);
        NeighbourSoup x = Check.street("pa9;ha10b10;ha10b10;ha10b10;ha10b10");
        Check.due("nobody puts", x.first(), -1);
        x.put(0, 0);
        Check.due("what is in the pot at first was not put in", x.first(), -1);
        x.put(3, 0);
        Check.due("the last one puts nothing in", x.first(), -1);
        x.put(1, 1);
        x.put(2, 1);
        Check.due("house 2 behind house 1", x.first(), 2);
        x.order(2103);
        Check.due("house 1 behind house 2", x.first(), 1);
        x.fill(2, 1, 9);
        Check.due("one ahead lacks one grain", x.first(), -1);
        x.fill(2, 1, 10);
        x.fill(1, 1, 9);
        Check.due("it lacks one grain itself", x.first(), -1);
        x.fill(1, 1, 10);
        x.order(2013);
        x.put(0, 1);
        Check.due("the first of two", x.first(), 0);
        x.days(1);
        Check.due("stores are used up", x.first(), -1);
        NeighbourSoup free = Check.street("ha30;ha30;ha30;h;lt0");
        for (int house = 0; house < 3; house++) {
            free.put(house, 0);
        }
        Check.due("twice is 0", free.first(), -1);
        NeighbourSoup bound = Check.street("ha30;ha30;ha30;h;lt1");
        for (int house = 0; house < 3; house++) {
            bound.put(house, 0);
        }
        Check.due("twice is 1", bound.first(), 1);
        bound.days(1);
        Check.due("a day goes on though the law is broken", bound.house(1, 0), 20);
    }

    /** Promise 15: "DAYS (1 .. 30) go on: the DAY. NONE: no STREET, out of bounds". */
    private static void daysAtOnce() {
        for (int n : new int[] {0, 31, -1, 32, 999, 1000, MIN, MAX}) {
            Twins.same("days(" + n + ")", Made::running, x -> x.days(n), -1);
        }
        Twins.same("days(1) without a street", Made::told, x -> x.days(1), -1);
        NeighbourSoup x = Check.street("h");
        Check.due("days(1)", x.days(1), 1);
        Check.due("days(30)", x.days(30), 31);
        Check.due("days(29)", x.days(29), 60);
        Check.due("the day", x.count(3), 60);
    }

    /** Promise 15: "the DAY would be above 999 (none goes on then)". */
    private static void lastDay() {
        for (int n : new int[] {1, 2, 30}) {
            Twins.same("days(" + n + ") on day 999", Made::late, x -> x.days(n), -1);
        }
        Twins.same("days(2) on day 998", StateBoundTest::day998, x -> x.days(2), -1);
        Twins.same("days(30) on day 998", StateBoundTest::day998, x -> x.days(30), -1);
        Check.due("days(1) on day 998", day998().days(1), 999);
        NeighbourSoup x = Check.street("h;h");
        for (int i = 0; i < 32; i++) {
            x.days(30);
        }
        x.days(10);
        int eaten = x.eaten(1);
        Check.due("days(30) on day 970", x.days(30), -1);
        Check.due("none goes on", x.count(3), 970);
        Check.due("none was eaten", x.eaten(1), eaten);
        x.undo();
        Check.due("days(30) on day 969", x.days(30), 999);
        Check.due("thirty can be undone", x.count(8), 30);
    }

    private static NeighbourSoup day998() {
        NeighbourSoup x = Made.late();
        x.undo();
        return x;
    }

    /** "STORES are less by what is put." */
    private static void storesAreLess() {
        NeighbourSoup x = Check.street("ha99b9l0;h;lg30");
        x.put(0, 0);
        int[] stores = {69, 39, 9, 9, 9};
        for (int day = 0; day < stores.length; day++) {
            x.days(1);
            Check.due("store behind day " + day, x.house(0, 0), stores[day]);
        }
        Check.due("another store stays", x.house(0, 1), 9);
        Check.due("eaten: three days with a put, two without", x.eaten(1), 5 * 100 + 3 * 60);
        NeighbourSoup y = Check.street("ha99b9l0;h;lg30");
        y.put(0, 0);
        y.days(5);
        Check.due("five at once are as five", y.house(0, 0), 9);
        Check.due("five at once are as five", y.eaten(1), 680);
    }

    /** "The latest (30) can be UNDONE"; promise 16: "NONE: none can be." */
    private static void thirtyUndone() {
        for (int days : new int[] {1, 29, 30, 31, 59, 60, 61, 91}) {
            NeighbourSoup x = Check.street("h;h");
            for (int i = 0; i < days; i++) {
                x.days(1);
                Check.due("days that can be undone", x.count(8), Math.min(30, i + 1));
            }
            int can = Math.min(30, days);
            for (int i = 1; i <= can; i++) {
                Check.due("undo", x.undo(), days - i);
                Check.due("days that can be undone", x.count(8), can - i);
            }
            Check.due("no more", x.undo(), -1);
            Check.due("the day stays", x.count(3), days - can);
            Check.due("eaten stays", x.eaten(0), ateWithout(days - can));
        }
    }

    /** House 0 of two takes 20 of 50 or of 100, all of which it likes. */
    private static int ateWithout(int days) {
        return 40 * days;
    }

    private static List<Integer> look(NeighbourSoup x) {
        List<Integer> seen = new ArrayList<>();
        for (int house = 0; house < x.count(0); house++) {
            for (int stuff = 0; stuff < 5; stuff++) {
                seen.add(x.house(house, stuff));
            }
            seen.add(x.eaten(house));
        }
        seen.add(x.count(3));
        return seen;
    }

    private static NeighbourSoup ofManyStores() {
        NeighbourSoup x = Check.street("ha99l7;hc99l5k2;hn2;lg1");
        x.put(0, 0);
        x.put(1, 2);
        return x;
    }

    private static void goOn(NeighbourSoup x, int days) {
        for (int rest = days; rest > 0; rest -= 30) {
            x.days(Math.min(rest, 30));
        }
    }

    /** "STORES, the DAY, MEALS as ahead of it": days and undoing in turns, far round the thirty. */
    private static void undoneLikeAStack() {
        int[] turns = {5, -2, 40, -10, 7, -27, 1, 30, 30, -30, 3, -3, 25, 10, -30};
        int day = 0;
        int can = 0;
        for (int n = 1; n <= turns.length; n++) {
            NeighbourSoup x = ofManyStores();
            for (int turn = 0; turn < n; turn++) {
                goOn(x, turns[turn]);
                for (int i = turns[turn]; i < 0; i++) {
                    x.undo();
                }
            }
            day += turns[n - 1];
            NeighbourSoup straight = ofManyStores();
            goOn(straight, day);
            Check.due("the day behind " + n + " turns", x.count(3), day);
            Check.due("all is as on day " + day, look(x).equals(look(straight)), true);
            can = Math.min(30, can + turns[n - 1]);
            Check.due("days that can be undone", x.count(8), can);
            Check.due("undo", x.undo(), can > 0 ? day - 1 : -1);
        }
    }

    private static void undoneWithoutDays() {
        Twins.same("undo() without a street", Made::told, NeighbourSoup::undo, -1);
        Twins.same("undo() on day 0", Made::full, NeighbourSoup::undo, -1);
        Twins.same("undo() behind all", () -> {
            NeighbourSoup x = Made.running();
            for (int i = 0; i < 5; i++) {
                x.undo();
            }
            return x;
        }, NeighbourSoup::undo, -1);
    }

    /** Promise 17: "MEALS of all NOONS together", from the first to day 999. */
    private static void eaten() {
        NeighbourSoup x = Check.street("h;h");
        Check.due("at first", x.eaten(0), 0);
        Check.liking(x, "y:i=0?1000*1000;y:0-1000*1000");
        for (int i = 0; i < 33; i++) {
            x.days(30);
        }
        x.days(9);
        Check.due("the most that can be", x.eaten(0), 999000000);
        Check.due("the least that can be", x.eaten(1), -999000000);
        x.undo();
        Check.due("a day less", x.eaten(0), 998000000);
        x.liking(-1);
        Check.due("what was eaten was by the liking of its day", x.eaten(1), -998000000);
        x.days(1);
        Check.due("20 and 20 more", x.eaten(0), 998000040);
        Twins.same("eaten(0)", Made::alone, s -> s.eaten(0), 10);
        Twins.same("eaten(1) of one", Made::alone, s -> s.eaten(1), HIDDEN);
    }
}
