/** Promises 1 to 5 and the terms of the two texts: each sentence that names a bound, at it and one beyond it. */
public final class TextBoundTest {
    private static final int MIN = Integer.MIN_VALUE;
    private static final int MAX = Integer.MAX_VALUE;
    private static final int BLANKS = 0x20202020;

    /** An item: what stands ahead of its letter, the letter, least, most, usual. */
    private record Item(String ahead, char letter, int least, int most, int usual) {
    }

    private static final Item[] ITEMS = {
        new Item("h;p", 'a', 0, 99, 50), new Item("h;p", 'b', 0, 99, 0), new Item("h;p", 'c', 0, 99, 0),
        new Item("h;p", 'd', 0, 99, 0), new Item("h;p", 'e', 0, 99, 0),
        new Item("h", 'a', 0, 99, 0), new Item("h", 'b', 0, 99, 0), new Item("h", 'c', 0, 99, 0),
        new Item("h", 'd', 0, 99, 0), new Item("h", 'e', 0, 99, 0), new Item("h", 'l', 0, 99, 20),
        new Item("h", 'k', 0, 4, 0), new Item("h", 'n', 0, 5, 5),
        new Item("h;l", 'g', 1, 30, 10), new Item("h;l", 't', 0, 1, 1), new Item("h;l", 'c', 0, 20, 5)};

    private TextBoundTest() {
    }

    public static void main(String[] args) {
        noStreet();
        tapeAtItsLength();
        bytesOfZero();
        highestFirst();
        endAtBothEnds();
        sortsOfFault();
        potOnce();
        lawOnce();
        oneToSixHouses();
        numbersOfItems();
        thirdDigits();
        usualNumbers();
        lettersOnce();
        lettersOfAnotherClause();
        missingNumbers();
        signsOfStreets();
        signsOfLikings();
        blanksInStreets();
        blanksInLikings();
        digitsOfLikings();
        sixWithinOneAnother();
        endsTooEarly();
        textsAreTold();
        allOfAnotherStreetIsGone();
        fourLikings();
        longestLikings();
        Check.finish();
    }

    private static int faultOf(int sort, String text) {
        NeighbourSoup x = new NeighbourSoup();
        Check.feed(x, text);
        return x.fault(sort);
    }

    private static void fault(int sort, String text, int want) {
        Check.due("fault(" + sort + ") of '" + text + "'", faultOf(sort, text), want);
    }

    private static void refusedText(int sort, String text) {
        Twins.same("text(" + sort + ") of '" + text + "'", () -> {
            NeighbourSoup x = Made.running();
            Check.tape(x, text);
            return x;
        }, x -> x.text(sort), -1);
    }

    /** Promise 1: "No STREET." */
    private static void noStreet() {
        NeighbourSoup x = new NeighbourSoup();
        Check.due("no house", x.count(0), 0);
        Check.due("no liking", x.count(1), 0);
        Check.due("an empty tape", x.count(2), 0);
        Check.due("none holds", x.count(4), -1);
        Check.due("no day can be undone", x.count(8), 0);
        Twins.same("first() without a street", Made::told, NeighbourSoup::first, -1);
        Twins.same("left() without a street", Made::told, NeighbourSoup::left, -1);
        Twins.same("meal(0) without a street", Made::told, s -> s.meal(0), NeighbourSoup.HIDDEN);
        Twins.same("share(0, 0) without a street", Made::told, s -> s.share(0, 0), -1);
        Twins.same("heat(0) without a street", Made::told, s -> s.heat(0), -1);
        Twins.same("eaten(0) without a street", Made::told, s -> s.eaten(0), NeighbourSoup.HIDDEN);
    }

    /** Promise 2: "how many it has. NONE: more than 160." */
    private static void tapeAtItsLength() {
        NeighbourSoup x = new NeighbourSoup();
        for (int i = 1; i <= 8; i++) {
            Check.due("twenty more", x.feed(BLANKS, BLANKS, BLANKS, BLANKS, BLANKS), 20 * i);
        }
        Check.due("160 are there", x.count(2), 160);
        Twins.same("one beyond 160", Made::full, s -> s.feed('x', 0, 0, 0, 0), -1);
        Twins.same("one beyond 160", Made::full, s -> s.feed(0, 0, 0, 0, 'x' << 24), -1);
        Twins.same("twenty beyond 160", Made::full, s -> s.feed(BLANKS, BLANKS, BLANKS, BLANKS, BLANKS), -1);
        Twins.same("none beyond 160", Made::full, s -> s.feed(0, 0, 0, 0, 0), 160);
        for (int free = 1; free <= 19; free++) {
            feedInto(free);
        }
        for (int sign = 1; sign <= 255; sign++) {
            for (int shift = 0; shift <= 24; shift += 8) {
                feedOne(sign << shift);
            }
        }
    }

    /** Any byte but 0 is one more, wherever it stands in its number. */
    private static void feedOne(int number) {
        NeighbourSoup x = new NeighbourSoup();
        for (int i = 0; i < 7; i++) {
            x.feed(BLANKS, BLANKS, BLANKS, BLANKS, BLANKS);
        }
        x.feed(BLANKS, BLANKS, BLANKS, BLANKS, BLANKS << 8);
        Check.due("159 are there", x.count(2), 159);
        Check.due("two more of " + number, x.feed(number, 0, number, 0, 0), -1);
        Check.due("one more of " + number, x.feed(0, number, 0, 0, 0), 160);
        Check.due("one beyond of " + number, x.feed(0, 0, 0, number, 0), -1);
        Check.due("160 are there", x.count(2), 160);
    }

    /** Of what is too much nothing comes to the tape, not even its first bytes; just as much as there is room does. */
    private static void feedInto(int free) {
        NeighbourSoup x = Made.full();
        x.end(160 - free);
        int[] over = Check.numbers("x".repeat(free + 1));
        Check.due((free + 1) + " into " + free, x.feed(over[0], over[1], over[2], over[3], over[4]), -1);
        Check.due("none of them came", x.count(2), 160 - free);
        Check.due("the tape is as it was", x.fault(1), -1);
        int[] just = Check.numbers(" ".repeat(free));
        Check.due(free + " into " + free, x.feed(just[0], just[1], just[2], just[3], just[4]), 160);
        Check.due("the tape is as it was", x.fault(1), -1);
    }

    /** Promise 2: "bytes of 0 are left out", wherever they stand. */
    private static void bytesOfZero() {
        for (int mask = 0; mask < 16; mask++) {
            int number = 0;
            for (int bit = 0; bit < 4; bit++) {
                number |= (mask >> bit & 1) == 1 ? 'h' << 8 * bit : 0;
            }
            int bytes = Integer.bitCount(mask);
            for (int place = 0; place < 5; place++) {
                NeighbourSoup x = new NeighbourSoup();
                int[] n = new int[5];
                n[place] = number;
                Check.due("feed mask " + mask, x.feed(n[0], n[1], n[2], n[3], n[4]), bytes);
                Check.due("h ahead of h is wrong", x.fault(0), bytes == 0 ? 0 : bytes == 1 ? -1 : 1);
            }
        }
        NeighbourSoup x = new NeighbourSoup();
        Check.due("bytes from 1 to 255 count", x.feed(0x01FF7F80, -1, 0x80000000, 1, 0x00010000), 11);
    }

    /** Promise 2: "of each number the highest first", and the numbers as they stand. */
    private static void highestFirst() {
        NeighbourSoup x = new NeighbourSoup();
        int length = x.feed('h' << 24 | 'a' << 16 | '1' << 8 | '2', 'b' << 24 | '3' << 16, 'c' << 8 | '4', 'd' << 8,
            '5' << 24 | 'l' << 16 | '6' << 8 | '7');
        Check.due("length", length, 13);
        Check.due("h a12 b3 c4 d5 l67", x.text(0), 1);
        int[] want = {12, 3, 4, 5, 0, 67};
        for (int what = 0; what < want.length; what++) {
            Check.due("house(0, " + what + ")", x.house(0, what), want[what]);
        }
    }

    /** Promise 3: "The TAPE has its first n bytes alone. False: n." */
    private static void endAtBothEnds() {
        NeighbourSoup x = new NeighbourSoup();
        Check.due("end(0) of an empty tape", x.end(0), true);
        Check.due("end(1) of an empty tape", x.end(1), false);
        Twins.same("end(-1)", Made::running, s -> Twins.bit(s.end(-1)), 0);
        Twins.same("end(9) of nine", Made::running, s -> Twins.bit(s.end(9)), 1);
        Twins.same("end(10) of nine", Made::running, s -> Twins.bit(s.end(10)), 0);
        Twins.same("end(160) of 160", Made::full, s -> Twins.bit(s.end(160)), 1);
        Twins.same("end(161) of 160", Made::full, s -> Twins.bit(s.end(161)), 0);
        Twins.same("end(max)", Made::full, s -> Twins.bit(s.end(MAX)), 0);
        Twins.same("end(min)", Made::full, s -> Twins.bit(s.end(MIN)), 0);
        NeighbourSoup y = Made.running();
        Check.due("end(3)", y.end(3), true);
        Check.due("three are there", y.count(2), 3);
        Check.due("what was behind is gone", y.end(4), false);
        Check.due("a feed goes on behind them", y.feed('5', 0, 0, 0, 0), 4);
        Check.due("hb75", y.text(0), 1);
        Check.due("hb75", y.house(0, 1), 75);
    }

    /** Promise 4: "-2: no such sort." */
    private static void sortsOfFault() {
        int[] wrong = {-2, -1, 2, 3, MIN, MAX};
        for (int sort : wrong) {
            Twins.same("fault(" + sort + ")", Made::running, s -> s.fault(sort), -2);
            Twins.same("fault(" + sort + ") of an empty tape", Made::bare, s -> s.fault(sort), -2);
            Twins.same("text(" + sort + ")", Made::running, s -> s.text(sort), -1);
        }
        Twins.same("fault(0)", Made::running, s -> s.fault(0), -1);
        Twins.same("fault(1)", Made::running, s -> s.fault(1), 0);
        Twins.same("fault(0) of 160", Made::full, s -> s.fault(0), 0);
        Twins.same("fault(1) of 160", Made::full, s -> s.fault(1), -1);
    }

    /** "p (the POT; one at most)", "a second p ... at it". */
    private static void potOnce() {
        fault(0, "h", -1);
        fault(0, "p;h", -1);
        fault(0, "h;p", -1);
        fault(0, "p;h;p", 4);
        fault(0, "pa1;pb1;h", 4);
        fault(0, "h;p;h; p;h", 7);
        refusedText(0, "p;h;p");
    }

    /** "l (the LAW; one at most)", "a second ... l ... at it". */
    private static void lawOnce() {
        fault(0, "l;h", -1);
        fault(0, "h;l", -1);
        fault(0, "l;h;l", 4);
        fault(0, "h;lg1;l", 6);
        fault(0, "hl1;hl1;l;hl1", -1);
        refusedText(0, "h;l;l");
    }

    /** "h (a HOUSE; 1 .. 6)", "without a HOUSE" the length, "a seventh h ... at it". */
    private static void oneToSixHouses() {
        fault(0, "p", 1);
        fault(0, "l", 1);
        fault(0, "p;l", 3);
        fault(0, "p ; l ", 6);
        fault(0, "p;l;", 4);
        String text = "h";
        for (int houses = 1; houses <= 6; houses++) {
            NeighbourSoup x = new NeighbourSoup();
            Check.feed(x, text);
            Check.due("text(0) of " + text, x.text(0), houses);
            text += ";h";
        }
        fault(0, text, 12);
        fault(0, text + ";h", 12);
        fault(0, "p;" + text, 14);
        fault(0, "h;h;h;h;h;h; ", 13);
        fault(0, "h;h;h;h;h;h;p", -1);
        fault(0, "h;h;h;h;h;h;l;p", -1);
        refusedText(0, "p");
        refusedText(0, text);
    }

    private static int told(NeighbourSoup x, Item item) {
        if (item.ahead.equals("h;p")) {
            return x.share(0, "abcde".indexOf(item.letter));
        }
        if (item.ahead.equals("h")) {
            return x.house(0, "abcdelkn".indexOf(item.letter));
        }
        return x.count(5 + "gtc".indexOf(item.letter));
    }

    /** "0 .. 99" and all the other bounds of items; "a number out of bounds is wrong at its last digit". */
    private static void numbersOfItems() {
        for (Item item : ITEMS) {
            for (int value = 0; value <= 99; value++) {
                numberOfItem(item, value, "" + value);
                if (value < 10) {
                    numberOfItem(item, value, "0" + value);
                }
            }
        }
        refusedText(0, "h;lg0");
        refusedText(0, "h;lg31");
        refusedText(0, "h;lt2");
        refusedText(0, "h;lc21");
        refusedText(0, "hk5");
        refusedText(0, "hn6");
    }

    private static void numberOfItem(Item item, int value, String digits) {
        String text = item.ahead + item.letter + digits;
        boolean may = value >= item.least && value <= item.most;
        int want = may ? -1 : text.length() - 1;
        fault(0, text, want);
        fault(0, text + " ;h", want);
        if (may) {
            NeighbourSoup x = Check.street(text);
            Check.due("told by " + text, told(x, item), value);
        }
    }

    /** "a third digit (whatever stands ahead of it ...) itself". */
    private static void thirdDigits() {
        for (Item item : ITEMS) {
            String letter = item.ahead + item.letter;
            for (int value = 0; value <= 99; value += 1) {
                String two = (value < 10 ? "0" : "") + value;
                fault(0, letter + two + value % 10, letter.length() + 2);
                fault(0, letter + two + "00;h", letter.length() + 2);
            }
        }
        refusedText(0, "ha100");
        refusedText(0, "hk991");
    }

    /** "a 50, else 0 without" and the other numbers of items that are not told. */
    private static void usualNumbers() {
        for (Item item : ITEMS) {
            Check.due("without " + item, told(Check.street("h"), item), item.usual);
            Check.due("without " + item, told(Check.street(item.ahead), item), item.usual);
        }
        NeighbourSoup x = Check.street("hl7k3;pb1;h;lt0");
        Check.due("a beside b", x.share(0, 0) + x.share(1, 0), 50);
        Check.due("g beside t", x.count(5), 10);
        Check.due("c beside t", x.count(7), 5);
        Check.due("bars beside likes", x.house(0, 7), 5);
        Check.due("a house tells nothing of another", x.house(1, 5) * 10 + x.house(1, 6), 200);
    }

    /** "a letter, each once at most in a CLAUSE", "a letter that was there ... at it". */
    private static void lettersOnce() {
        for (Item item : ITEMS) {
            String one = item.ahead + item.letter + "1";
            fault(0, one + item.letter + "1", one.length());
            fault(0, one + item.letter, one.length());
            fault(0, one + " " + item.letter + "99", one.length() + 1);
        }
        fault(0, "ha1b1c1d1e1l1k1n1", -1);
        fault(0, "ha1b1c1d1e1l1k1n1a1", 17);
        fault(0, "nope", 0);
        fault(0, "ha1l1;ha1l1;pa1c1;lc1", -1);
        refusedText(0, "ha1a1");
    }

    /** A letter of another clause is none of this one. */
    private static void lettersOfAnotherClause() {
        String[] ahead = {"h;p", "h", "h;l"};
        String[] letters = {"abcde", "abcdelkn", "gtc"};
        for (int kind = 0; kind < 3; kind++) {
            for (int sign = 1; sign < 256; sign++) {
                char letter = (char) sign;
                boolean may = letters[kind].indexOf(letter) >= 0;
                boolean later = letter == ';' || letter == ' ';
                int at = ahead[kind].length();
                fault(0, ahead[kind] + letter + "1", may ? -1 : later ? at + 1 : at);
            }
        }
    }

    /** "a letter ... and a number (one or two digits)": not none. */
    private static void missingNumbers() {
        for (Item item : ITEMS) {
            String letter = item.ahead + item.letter;
            fault(0, letter, letter.length());
            fault(0, letter + "  ", letter.length() + 2);
            fault(0, letter + ";h", letter.length());
            fault(0, letter + "b", letter.length());
            fault(0, letter + "-1", letter.length());
            fault(0, letter + "1", -1);
        }
    }

    private static String asSigns(int from, int to) {
        StringBuilder signs = new StringBuilder();
        for (int sign = from; sign <= to; sign++) {
            signs.append((char) sign);
        }
        return signs.toString();
    }

    /** Behind a text each of the 255 bytes: it ends well with it, it ends too early, or the byte is wrong. */
    private static void signs(int sort, String text, String well, String early) {
        for (char sign : asSigns(1, 255).toCharArray()) {
            int want = well.indexOf(sign) >= 0 ? -1 : early.indexOf(sign) >= 0 ? text.length() + 1 : text.length();
            Check.due("fault(" + sort + ") of '" + text + "' and byte " + (int) sign, faultOf(sort, text + sign), want);
        }
    }

    private static void signsOfStreets() {
        signs(0, "", "h", "pl ");
        signs(0, "h", " ", "abcdelkn;");
        signs(0, "h;", "hpl", " ");
        signs(0, "h;p;", "hl", " ");
        signs(0, "h;l;", "hp", " ");
        signs(0, "h;p;l;", "h", " ");
        signs(0, "h;h;h;h;h;h;", "pl", " ");
        signs(0, "ha", "0123456789", " ");
        signs(0, "ha1", "0123456789 ", "bcdelkn;");
        signs(0, "ha11", " ", "bcdelkn;");
        signs(0, "ha1 ", " ", "bcdelkn;");
        signs(0, "h;lt", "01", " ");
        signs(0, "h;lg", "123456789", " ");
    }

    private static void signsOfLikings() {
        String atoms = "0123456789lnshit";
        String joints = "+-*/";
        signs(1, "", "", "y ");
        signs(1, "y", "", ": ");
        signs(1, "y:", atoms, "!([ ");
        signs(1, "y:1", "0123456789 ", joints + "=<>;");
        signs(1, "y:l", " ", joints + "=<>;");
        signs(1, "y:1;", "", "y ");
        signs(1, "y:1+", atoms, "[ ");
        signs(1, "y:1*", atoms, "[ ");
        signs(1, "y:1>", "", atoms + "[ ");
        signs(1, "y:1>1", "", "0123456789 " + joints + "&|?");
        signs(1, "y:1>1&", "", atoms + "!([ ");
        signs(1, "y:1>1|", "", atoms + "!([ ");
        signs(1, "y:1>1?", atoms, "[ ");
        signs(1, "y:1>1?l", " ", joints + ";");
        signs(1, "y:!", "", atoms + "!([ ");
        signs(1, "y:!l", "", joints + "=<> ");
        signs(1, "y:(", "", atoms + "!([ ");
        signs(1, "y:(l", "", joints + "=<> ");
        signs(1, "y:(l>l", "", joints + "&|) ");
        signs(1, "y:(l>l)", "", "&|? ");
        signs(1, "y:((l>l)", "", "&|) ");
        signs(1, "y:[", "", atoms + "[ ");
        signs(1, "y:[l", "]", joints + " ");
        signs(1, "y:[l]", " ", joints + "=<>;");
        signs(1, "y:[[l]", "]", joints + " ");
    }

    /** "Blanks (32) may stand between all signs of both, not within numbers." */
    private static void blanksInStreets() {
        fault(0, " p  a 12 b3 ;  h  ; l  g 7 t 0 ", -1);
        fault(0, "ha1 2", 4);
        fault(0, "ha1 b2", -1);
        fault(0, "ha 1 2b3", 5);
        fault(0, "h;lg1 0", 6);
        for (char other : new char[] {9, 10, 13, 31, 33, 160}) {
            fault(0, "h" + other, 1);
            fault(0, other + "h", 0);
        }
    }

    private static void blanksInLikings() {
        fault(1, " y : ! ( 1 + [ 2 ] > 3 & l < n ) | t = 4 ? 5 * 6 ; y : 7 ", -1);
        fault(1, "y:1 2", 4);
        fault(1, "y:12 34", 5);
        fault(1, "y:1> 1 1?1", 7);
        for (char other : new char[] {9, 10, 13, 31, 33, 160}) {
            fault(1, "y:1" + other, 3);
            fault(1, "y" + other + ":1", 1);
        }
    }

    /** "a number (1 to 4 digits)", "a fifth one in a LIKING ... itself". */
    private static void digitsOfLikings() {
        String[] ahead = {"y:", "y:1+", "y:1*", "y:[", "y:1=", "y:(1<", "y:!", "y:1=1?", "y:1;y:"};
        String[] behind = {"", "", "", "]", "?1", ")?1", "=1?1", "", ""};
        for (int i = 0; i < ahead.length; i++) {
            for (String digits : new String[] {"0", "00", "000", "0000", "9", "99", "999", "9999"}) {
                fault(1, ahead[i] + digits + behind[i], -1);
            }
            for (String digits : new String[] {"00000", "12345", "99999", "000000"}) {
                fault(1, ahead[i] + digits + behind[i], ahead[i].length() + 4);
            }
        }
        refusedText(1, "y:12345");
        NeighbourSoup x = Check.street("h");
        Check.liking(x, "y:9999");
        Check.due("four digits", x.meal(0), 9999);
        Check.liking(x, "y:0010");
        Check.due("zeros ahead", x.meal(0), 10);
    }

    /** "At most six of ( [ ! within one another", "a seventh of ( [ ! at it": all rows of six and of seven. */
    private static void sixWithinOneAnother() {
        for (int depth = 1; depth <= 7; depth++) {
            for (int outer = 0; outer <= depth; outer++) {
                for (int mask = 0; mask < 1 << outer; mask++) {
                    nested(outer, mask, depth - outer, "");
                    nested(outer, mask, depth - outer, "1=1&");
                    nested(outer, mask, depth - outer, "1=1|");
                    nested(outer, mask, depth - outer, "!1=1&[2]>0|");
                }
            }
        }
        fault(1, "y:[[[[[[1]]]]]]+[[[[[[2]]]]]]>[[[[[[3]]]]]]?[[[[[[4]]]]]]", -1);
        fault(1, "y:((((((1>1))))))|!!!!!!1>1&((((((1>1))))))?1", -1);
        fault(1, "y:((((((1>1))))))|!!!!!!1>1&(((((((1>1)))))))?1", 34);
        refusedText(1, "y:[[[[[[[1]]]]]]]");
    }

    /** Signs within one another, with other units ahead of those in the first of the brackets. */
    private static void nested(int outer, int mask, int brackets, String units) {
        StringBuilder text = new StringBuilder("y:");
        StringBuilder behind = new StringBuilder();
        int seventh = -1;
        boolean first = true;
        for (int i = 0; i < outer; i++) {
            boolean not = (mask >> i & 1) == 1;
            seventh = i == 6 ? text.length() : seventh;
            text.append(not ? '!' : '(');
            behind.append(not ? "" : ")");
            if (!not && first) {
                text.append(units);
                first = false;
            }
        }
        seventh = outer + brackets == 7 && outer < 7 ? text.length() + 6 - outer : seventh;
        text.append("[".repeat(brackets)).append('l').append("]".repeat(brackets)).append(">1").append(behind);
        // in the sixth bracket the units themselves would be too deep
        boolean deepUnits = units.startsWith("!") && (mask & 63) == 31 && outer >= 6;
        if (!deepUnits) {
            fault(1, text + "?1", seventh);
        }
    }

    /** "the length, if it ends too early": each text cut short, blanks behind it. */
    private static void endsTooEarly() {
        String liking = "y:!(l>[1]|n<2)&s=3?h*[i-t]";
        for (int n = 0; n < liking.length(); n++) {
            String cut = liking.substring(0, n);
            boolean whole = n == 20;
            fault(1, cut, whole ? -1 : n);
            fault(1, cut + "  ", whole ? -1 : n + 2);
        }
        fault(1, liking, -1);
        fault(0, "", 0);
        fault(0, " ", 1);
        fault(0, "p;", 2);
        fault(0, "h;", 2);
        fault(0, "h;l;", 4);
        fault(0, "h;l;  ", 6);
        refusedText(0, "");
        refusedText(1, "");
        refusedText(0, "h;");
        refusedText(1, "y:1;");
    }

    /** Promise 5: "how many HOUSES; a LIKING: its number"; "The TAPE (empty then)". */
    private static void textsAreTold() {
        NeighbourSoup x = Made.told();
        Check.due("text(1) of a street", x.text(1), -1);
        Check.due("the tape stays", x.count(2), 9);
        Check.due("text(0)", x.text(0), 2);
        Check.due("the tape is empty", x.count(2), 0);
        Check.due("so it is a street no more", x.text(0), -1);
        Check.due("the street stays", x.count(0), 2);
        Check.feed(x, "y:2");
        Check.due("text(0) of a liking", x.text(0), -1);
        Check.due("the tape stays", x.count(2), 3);
        Check.due("text(1)", x.text(1), 1);
        Check.due("the tape is empty", x.count(2), 0);
        Check.due("the street stays", x.count(0), 2);
        Check.due("none holds by it", x.count(4), -1);
    }

    /** Promise 5: "all that was of another one is gone but LIKINGS; none holds". */
    private static void allOfAnotherStreetIsGone() {
        NeighbourSoup x = Check.street("pb99;ha99l99k4n4;h;h;h;h;he99k3l1;lg30t0c20");
        Check.liking(x, "y:1");
        x.order(543210);
        x.put(0, 0);
        x.put(5, 4);
        x.days(30);
        x.image();
        Check.street(x, "h");
        gone(x, 1, 0, 9);
        Check.street(x, "h;h;h;h;h;h");
        gone(x, 6, 12345, 999999);
        Check.due("the liking is there", x.liking(0), true);
        Check.due("the liking is there", x.meal(0), 1);
    }

    private static void gone(NeighbourSoup x, int houses, int order, int puts) {
        int[] want = {houses, 1, 0, 0, -1, 10, 1, 5, 0, order, puts};
        for (int what = 0; what <= 10; what++) {
            Check.due("count(" + what + ")", x.count(what), want[what]);
        }
        int[] usual = {0, 0, 0, 0, 0, 20, 0, 5, 9};
        for (int house = 0; house < houses; house++) {
            for (int what = 0; what <= 8; what++) {
                Check.due("house(" + house + ", " + what + ")", x.house(house, what), usual[what]);
            }
            Check.due("place", x.house(house, 9), house);
            Check.due("eaten", x.eaten(house), 0);
        }
        Check.due("the pot", x.share(0, 0), houses == 1 ? 50 : 20);
        Check.due("the pot", x.share(0, 1), 0);
        Check.due("undo", x.undo(), -1);
        Check.due("back", x.back(), -1);
    }

    /** "LIKINGS (4 at most)"; promise 5: "NONE: ... there are four". */
    private static void fourLikings() {
        NeighbourSoup x = new NeighbourSoup();
        for (int i = 0; i < 4; i++) {
            Check.tape(x, "y:" + (i + 1));
            Check.due("text(1)", x.text(1), i);
        }
        Twins.same("a fifth liking", Made::full, s -> s.text(1), -1);
        Twins.same("it has no fault", Made::full, s -> s.fault(1), -1);
        NeighbourSoup y = Made.full();
        Check.street(y, "h;h;h");
        Check.due("a street can be told still", y.count(0), 3);
        Check.due("four are there", y.count(1), 4);
        Check.tape(y, "y:1");
        Check.due("and no fifth one", y.text(1), -1);
        Check.due("the tape stays", y.count(2), 3);
    }

    /** Likings of just 160 bytes: many signs, many clauses, the longest numbers. */
    private static void longestLikings() {
        NeighbourSoup x = Check.street("h");
        Check.liking(x, "y:" + "1+".repeat(78) + "10");
        Check.due("a long sum", x.meal(0), 88);
        Check.liking(x, "y:" + "1=2|".repeat(38) + "1=1?77");
        Check.due("a long condition", x.meal(0), 77);
        Check.liking(x, "y:0>1?1;".repeat(19) + "y:  1234");
        Check.due("many clauses", x.meal(0), 1234);
        Check.liking(x, "y:" + "!!!!!!0>1|".repeat(15) + "1>0?1234");
        Check.due("many deep units", x.meal(0), 1234);
        Check.due("four of them are there", x.count(1), 4);
    }
}
