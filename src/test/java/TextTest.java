/** Promises 1 to 5: a new object, feed, end, fault, text. */
public final class TextTest {
    private TextTest() {
    }

    public static void main(String[] args) {
        newObject();
        feed();
        end();
        faultsOfStreets();
        faultsOfLikings();
        nesting();
        streetTold();
        likingsTold();
        Check.finish();
    }

    private static void newObject() {
        NeighbourSoup x = new NeighbourSoup();
        for (int what = 0; what <= 10; what++) {
            Check.due("new count(" + what + ")", x.count(what), what == 4 ? -1 : 0);
        }
        Check.due("new meal", x.meal(0), NeighbourSoup.HIDDEN);
        Check.due("new share", x.share(0, 0), -1);
        Check.due("new heat", x.heat(0), -1);
        Check.due("new first", x.first(), -1);
        Check.due("new days", x.days(1), -1);
        Check.due("new undo", x.undo(), -1);
        Check.due("new eaten", x.eaten(0), NeighbourSoup.HIDDEN);
        Check.due("new puts", x.puts(0, 0), NeighbourSoup.HIDDEN);
        Check.due("new orders", x.orders(0, 0), NeighbourSoup.HIDDEN);
        Check.due("new bestFor", x.bestFor(0, 1, 0), NeighbourSoup.HIDDEN);
        Check.due("new about", x.about(0, 1), NeighbourSoup.HIDDEN);
        Check.due("new about all", x.about(-1, 1), NeighbourSoup.HIDDEN);
        Check.due("new poison", x.poison(0, 1, 0), -1);
        Check.due("new guilty", x.guilty(1, 1, 0), -1);
        Check.due("new harm", x.harm(0, 1, 0), -1);
        Check.due("new stranger", x.stranger(0, 1, 0), NeighbourSoup.HIDDEN);
        Check.due("new exchange", x.exchange(0), NeighbourSoup.HIDDEN);
        Check.due("new lasts", x.lasts(0), -1);
        Check.due("new left", x.left(), -1);
        Check.due("new drawn", x.drawn(1, 1), -1);
        Check.due("new image", x.image(), -1);
        Check.due("new back", x.back(), -1);
        Check.due("new liking", x.liking(-1), false);
        Check.due("new order", x.order(0), false);
        Check.due("new put", x.put(0, 0), false);
        Check.due("new fill", x.fill(0, 0, 0), false);
        Check.noSuchElement(x, 0, 0);
    }

    private static void feed() {
        NeighbourSoup x = new NeighbourSoup();
        Check.due("feed nothing", x.feed(0, 0, 0, 0, 0), 0);
        Check.due("feed with zeros", x.feed(0x00680000, 0x2000003B, 0, 0x00000068, 0), 4);
        Check.due("the highest byte comes first", x.fault(0), -1);
        Check.due("feed", x.feed(0x78200000, 0, 0, 0, 0x80FF0000), 8);
        Check.due("a wrong byte", x.fault(0), 4);
        x.end(4);
        Check.due("a byte above 127", x.feed(0xE8000000, 0, 0, 0, 0), 5);
        Check.due("it is no h", x.fault(0), 4);
        x.end(0);
        for (int i = 1; i <= 7; i++) {
            Check.due("feed twenty", x.feed(0x20202020, 0x20202020, 0x20202020, 0x20202020, 0x20202020), 20 * i);
        }
        Check.due("feed nineteen", x.feed(0x20202020, 0x20202020, 0x20202020, 0x20202020, 0x20202000), 159);
        Check.due("feed two more", x.feed(0x20200000, 0, 0, 0, 0), -1);
        Check.due("nothing came", x.count(2), 159);
        Check.due("feed one more", x.feed(0, 0, 0, 0, 0x00000068), 160);
        Check.due("full and whole", x.fault(0), -1);
        Check.due("feed above", x.feed(0x20000000, 0, 0, 0, 0), -1);
        Check.due("feed none", x.feed(0, 0, 0, 0, 0), 160);
        Check.due("still whole", x.text(0), 1);
    }

    private static void end() {
        NeighbourSoup x = new NeighbourSoup();
        Check.feed(x, "h;hx");
        Check.due("end(5)", x.end(5), false);
        Check.due("end(-1)", x.end(-1), false);
        Check.due("end(min)", x.end(Integer.MIN_VALUE), false);
        Check.due("length", x.count(2), 4);
        Check.due("end(4)", x.end(4), true);
        Check.due("fault", x.fault(0), 3);
        Check.due("end(3)", x.end(3), true);
        Check.due("no fault", x.fault(0), -1);
        Check.due("end(4) again", x.end(4), false);
        Check.due("end(0)", x.end(0), true);
        Check.due("empty", x.count(2), 0);
    }

    private static void fault(int sort, String text, int want) {
        NeighbourSoup x = new NeighbourSoup();
        int length = Check.feed(x, text);
        Check.due("fault(" + sort + ") of '" + text + "'", x.fault(sort), want);
        Check.due("the tape stays", x.count(2), length);
        if (want != -1) {
            Check.due("text(" + sort + ") of '" + text + "'", x.text(sort), -1);
            Check.due("the tape stays", x.count(2), length);
        }
    }

    private static void faultsOfStreets() {
        fault(0, "", 0);
        fault(0, "   ", 3);
        fault(0, "h", -1);
        fault(0, "  h  ", -1);
        fault(0, "p", 1);
        fault(0, "p a5 ", 5);
        fault(0, "l;p  ", 5);
        fault(0, "p;", 2);
        fault(0, "h; ", 3);
        fault(0, ";h", 0);
        fault(0, "h;;h", 2);
        fault(0, "H", 0);
        fault(0, "hh", 1);
        fault(0, "h h", 2);
        fault(0, "ha", 2);
        fault(0, "ha ", 3);
        fault(0, "ha;", 2);
        fault(0, "hab", 2);
        fault(0, "ha1a2", 3);
        fault(0, "ha1;ha2", -1);
        fault(0, "ha1 2", 4);
        fault(0, "ha12 3", 5);
        fault(0, "h5", 1);
        fault(0, "ha99b0c07d00e1l99k4n5", -1);
        fault(0, "ha100", 4);
        fault(0, "ha000", 4);
        fault(0, "hk4", -1);
        fault(0, "hk04", -1);
        fault(0, "hk5", 2);
        fault(0, "hk05", 3);
        fault(0, "hk40", 3);
        fault(0, "hk400", 4);
        fault(0, "hk995", 4);
        fault(0, "hn5", -1);
        fault(0, "hn6", 2);
        fault(0, "hg1", 1);
        fault(0, "h;lg0", 4);
        fault(0, "h;lg00", 5);
        fault(0, "h;lg01", -1);
        fault(0, "h;lg0;", 4);
        fault(0, "h;lg30", -1);
        fault(0, "h;lg31", 5);
        fault(0, "h;lg311", 6);
        fault(0, "h;lt1", -1);
        fault(0, "h;lt2", 4);
        fault(0, "h;lc20", -1);
        fault(0, "h;lc21", 5);
        fault(0, "h;la1", 3);
        fault(0, "h;pl1", 3);
        fault(0, "h;pk1", 3);
        fault(0, "h;pe99a0", -1);
        fault(0, "p;p", 2);
        fault(0, "l;l", 2);
        fault(0, "l g1 t0 c0;h;p", -1);
        fault(0, "h;h;h;h;h;h", -1);
        fault(0, "h;h;h;h;h;h;h", 12);
        fault(0, "h;h;h;h;h;h;p;l", -1);
        fault(0, "h;h;h;h;h;h;p;l;", 16);
        fault(0, "h;h;h;h;h;h;p;l;h", 16);
        fault(0, "h" + (char) 9, 1);
        fault(0, "h" + (char) 1, 1);
        NeighbourSoup x = new NeighbourSoup();
        Check.feed(x, "h");
        Check.due("fault(-1)", x.fault(-1), -2);
        Check.due("fault(2)", x.fault(2), -2);
    }

    private static void faultsOfLikings() {
        fault(1, "", 0);
        fault(1, " ", 1);
        fault(1, "y", 1);
        fault(1, "y:", 2);
        fault(1, "x:1", 0);
        fault(1, "y1", 1);
        fault(1, "y:1", -1);
        fault(1, " y : 1 ", -1);
        fault(1, "y:1;", 4);
        fault(1, "y:1;y", 5);
        fault(1, "y:1;1", 4);
        fault(1, "y:1;y:2", -1);
        fault(1, "y:1234", -1);
        fault(1, "y:12345", 6);
        fault(1, "y:00000", 6);
        fault(1, "y:1 2", 4);
        fault(1, "y:1l", 3);
        fault(1, "y:l1", 3);
        fault(1, "y:a", 2);
        fault(1, "y:-1", 2);
        fault(1, "y:1-", 4);
        fault(1, "y:1--1", 4);
        fault(1, "y:l+n-s*h/i+t", -1);
        fault(1, "y:l>1", 5);
        fault(1, "y:l>1;", 5);
        fault(1, "y:l>1?", 6);
        fault(1, "y:l>1?2", -1);
        fault(1, "y:l>1?2>1", 7);
        fault(1, "y:l>1?2?3", 7);
        fault(1, "y:l?1", 3);
        fault(1, "y:l&1", 3);
        fault(1, "y:l>1>2?3", 5);
        fault(1, "y:l>=1?2", 4);
        fault(1, "y:l>1&n<2|s=3?4", -1);
        fault(1, "y:l>1&2?3", 7);
        fault(1, "y:l>1|?3", 6);
        fault(1, "y:!l>1?2", -1);
        fault(1, "y:!l?2", 4);
        fault(1, "y:!5", 4);
        fault(1, "y:(l>1)?2", -1);
        fault(1, "y:(l)?2", 4);
        fault(1, "y:(l>1)", 7);
        fault(1, "y:(l>1)+1?2", 7);
        fault(1, "y:(l>1)>1?2", 7);
        fault(1, "y:(l>1?2", 6);
        fault(1, "y:l>(1)?2", 4);
        fault(1, "y:l>!1?2", 4);
        fault(1, "y:[1]", -1);
        fault(1, "y:[1", 4);
        fault(1, "y:[1)", 4);
        fault(1, "y:[l>1]", 4);
        fault(1, "y:[]", 3);
        fault(1, "y:1]", 3);
        fault(1, "y:1)", 3);
        fault(1, "y:[l+1]*2>[3]?[4]/[5]", -1);
    }

    private static void nesting() {
        fault(1, "y:[[[[[[1]]]]]]", -1);
        fault(1, "y:[[[[[[[1]]]]]]]", 8);
        fault(1, "y:((((((l>1))))))?1", -1);
        fault(1, "y:(((((((l>1)))))))?1", 8);
        fault(1, "y:!!!!!!l>1?1", -1);
        fault(1, "y:!!!!!!!l>1?1", 8);
        fault(1, "y:!(!(![1]>[2])&![3]=[4]&!([5]=6))?[7]", -1);
        fault(1, "y:!(!(!([1]>1)))?1", 8);
        fault(1, "y:!(!(!(1>1)))?1", -1);
        fault(1, "y:!!!!!!1>[1]?1", 10);
        fault(1, "y:!!!!!1>[1]&!!!!!!1>1?[[[[[[1]]]]]]", -1);
        fault(1, "y:[1]+[1]+[1]+[1]+[1]+[1]+[1]+[1]", -1);
        fault(1, "y:1>1?[[[[[[[1", 12);
        fault(1, "y:((((((1>1&[1]>1))))))?1", 12);
        fault(1, "y:((((((1>1|[1]>1))))))?1", 12);
        fault(1, "y:(((((1>1&[1]>1|[1]>1&[1]>[1])))))?1", -1);
        fault(1, "y:(((((1>1&(1>1)|(1>1|([", 22);
        fault(1, "y:1>1&((((((1>1|1>1&!", 20);
    }

    private static void streetTold() {
        NeighbourSoup x = new NeighbourSoup();
        Check.street(x, "h;h a12;l g3 t0 c7;p b4");
        Check.due("tape empty", x.count(2), 0);
        Check.due("houses", x.count(0), 2);
        Check.due("grains", x.count(5), 3);
        Check.due("twice", x.count(6), 0);
        Check.due("colder", x.count(7), 7);
        Check.due("pot of a is 50 beside b", x.share(0, 0) + x.share(1, 0), 50);
        Check.due("pot of b", x.share(0, 1) + x.share(1, 1), 4);
        Check.liking(x, "y:7");
        x.put(1, 0);
        x.order(10);
        x.days(2);
        x.image();
        Check.due("text(0) empty", x.text(0), -1);
        Check.due("refused: houses", x.count(0), 2);
        Check.due("refused: day", x.count(3), 2);
        Check.feed(x, "h;h;h");
        Check.due("text(2)", x.text(2), -1);
        Check.due("text(-1)", x.text(-1), -1);
        Check.due("tape", x.count(2), 5);
        Check.due("text(0)", x.text(0), 3);
        Check.due("day", x.count(3), 0);
        Check.due("undone", x.count(8), 0);
        Check.due("order", x.count(9), 12);
        Check.due("puts", x.count(10), 999);
        Check.due("liking that holds", x.count(4), -1);
        Check.due("likings", x.count(1), 1);
        Check.due("law", x.count(5) * 100 + x.count(6) * 10 + x.count(7), 1015);
        Check.due("back", x.back(), -1);
        Check.due("undo", x.undo(), -1);
        Check.due("eaten", x.eaten(1), 0);
        Check.due("store", x.house(1, 0), 0);
        Check.due("pot without p", x.share(0, 0), 20);
        Check.street(x, "pa0;h");
        Check.due("pot of a 0", x.share(0, 0), 0);
    }

    private static void likingsTold() {
        NeighbourSoup x = new NeighbourSoup();
        for (int i = 0; i < 4; i++) {
            Check.tape(x, "y:" + i);
            Check.due("text(1) without a street", x.text(1), i);
            Check.due("likings", x.count(1), i + 1);
            Check.due("tape", x.count(2), 0);
        }
        Check.tape(x, "y:5");
        Check.due("no fault", x.fault(1), -1);
        Check.due("a fifth liking", x.text(1), -1);
        Check.due("tape", x.count(2), 3);
        Check.due("likings", x.count(1), 4);
        Check.due("a liking is no street", x.text(0), -1);
        Check.street(x, "h");
        Check.due("none holds", x.meal(0), 100);
        for (int i = 0; i < 4; i++) {
            x.liking(i);
            Check.due("liking " + i, x.meal(0), i);
        }
    }
}
