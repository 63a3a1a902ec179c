/** The edges of promises 8 and 9: THE TEXT, what is a STREET, its FAULTS, and who is HEARD on it. */
final class StreetEdges extends Edges {
    private static final int[] NO_SIGN = {-1, 128, 256 + 'b', LEAST, MOST};

    /** What street() says of a text, of a new object. */
    private void reads(String text, int want) {
        due("street of '" + text + "'", reads(new RefusedTwice(), text), want);
    }

    private void faultAt(int place, String text) {
        reads(text, -10 - place);
    }

    /** The words (as bits) that are HEARD on a STREET, of scorners: 1 with v 7 says them to 2, on a day. */
    private void heard(String text, int day, int words) {
        RefusedTwice x = goes(Check.people(SCORNER, 0, SCORNER, 7, SCORNER, 8), day);
        due("street of '" + text + "'", reads(x, text), 0);
        due("heard on '" + text + "', day " + day, counting(x, 1, 2), words);
    }

    private void heard(String text, int words) {
        heard(text, 13, words);
    }

    // ---- promise 8

    @Holds(promise = 8, says = "A sign (0 .. 127) comes behind THE TEXT's: how many it has.")
    void leastAndGreatestSign() {
        RefusedTwice x = new RefusedTwice();
        due("feed(0)", x.feed(0), 1);
        due("feed(127)", x.feed(127), 2);
        due("feed(64)", x.feed(64), 3);
        due("count(5)", x.count(5), 3);
    }

    @Holds(promise = 8, says = "comes behind THE TEXT's:")
    void signsKeepTheirOrder() {
        RefusedTwice x = new RefusedTwice();
        reads(x, "begin 12");
        due("told(1)", x.told(1), 12);
    }

    @Holds(promise = 8, says = "BAD;")
    void noSign() {
        RefusedTwice x = new RefusedTwice();
        for (int sign : NO_SIGN) {
            due("feed(" + sign + ")", x.feed(sign), BAD);
        }
        due("count(5)", x.count(5), 0);
        due("feed(98)", x.feed(98), 1);
    }

    @Holds(promise = 8, says = "FULL.")
    void hundredSignsAreAll() {
        RefusedTwice x = new RefusedTwice();
        due("the hundredth", Check.feeds(x, "p".repeat(100)), 100);
        due("one more", x.feed('p'), FULL);
        due("count(5)", x.count(5), 100);
        due("street()", x.street(), -10);
        due("the first again", x.feed('p'), 1);
    }

    // ---- promise 9: what is a STREET

    @Holds(promise = 9, says = "A STREET is read from THE TEXT (bytes, 100 at most):")
    void hundredBytes() {
        String street = "deaf 1 p=11" + "|p=11".repeat(17) + "|p=1";
        due("its length", street.length(), 100);
        reads(street, 0);
        heard(street, 0);
        faultAt(99, street.substring(0, 99) + "=");
        faultAt(99, street.substring(0, 99) + "&");
    }

    @Holds(promise = 9, says = "CLAUSES, 1 to 10, with ; between:")
    void oneToTenClauses() {
        faultAt(0, "");
        reads("begin 1", 0);
        String ten = "begin 1" + ";begin 1".repeat(8) + ";begin 7";
        reads(ten, 0);
        RefusedTwice x = new RefusedTwice();
        reads(x, ten);
        due("the tenth is read", x.told(1), 7);
        heard("begin 1;".repeat(6) + "deaf 1 w=0;deaf 1 w=1;deaf 1 w=2;deaf 1 w=2", 8);
        faultAt(79, ten + ";");
        faultAt(79, ten + ";begin 1");
        faultAt(0, ";");
        faultAt(0, ";begin 1");
        faultAt(8, "begin 1;");
        faultAt(8, "begin 1;;begin 1");
        faultAt(7, "begin 1,begin 1");
        faultAt(7, "begin 1begin 1");
        faultAt(8, "begin 1; begin 1");
        faultAt(7, "begin 1 ;begin 1");
    }

    @Holds(promise = 9, says = "loud n E; deaf n E; begin n")
    void threeWords() {
        reads("loud 1 p=1", 0);
        reads("deaf 1 p=1", 0);
        reads("begin 1", 0);
        reads("loud 1 p=1;deaf 1 p=1;begin 1;deaf 1 p=1;loud 1 p=1", 0);
        faultAt(0, "quiet 1 p=1");
        faultAt(0, "Loud 1 p=1");
        faultAt(4, "louder 1 p=1");
        faultAt(1, "lead 1 p=1");
        faultAt(3, "dear 1 p=1");
        faultAt(3, "begun 1");
        faultAt(3, "deal");
        faultAt(6, "loud 1");
        faultAt(7, "begin 1 p=1");
        faultAt(7, "begin 1p=1");
        faultAt(5, "loud p=1");
    }

    @Holds(promise = 9, says = "(one blank ahead of each part behind the word;")
    void oneBlank() {
        faultAt(5, "begin");
        faultAt(5, "begin1");
        faultAt(6, "begin  1");
        faultAt(4, "loud1 p=1");
        faultAt(5, "loud  1 p=1");
        faultAt(6, "loud 1p=1");
        faultAt(7, "loud 1  p=1");
        faultAt(4, "deaf1 p=1");
        faultAt(6, "deaf 1p=1");
        faultAt(0, " begin 1");
        faultAt(7, "begin 1 ");
        faultAt(10, "deaf 1 p=1 ");
        faultAt(8, "deaf 1 p =1");
        faultAt(9, "deaf 1 p= 1");
        faultAt(8, "deaf 1 ! p=1");
        faultAt(5, "begin\t1");
    }

    @Holds(promise = 9, says = "n 1 or 2 digits).")
    void oneOrTwoDigits() {
        reads("begin 0", 0);
        reads("begin 9", 0);
        reads("begin 00", 0);
        reads("begin 99", 0);
        reads("loud 0 p=1", 0);
        reads("deaf 99 p=1", 0);
        faultAt(6, "begin ");
        faultAt(6, "begin x");
        faultAt(6, "begin -1");
        faultAt(7, "begin 1x");
        faultAt(8, "begin 100");
        faultAt(8, "begin 001");
        faultAt(5, "loud  p=1");
        faultAt(7, "loud 100 p=1");
        faultAt(7, "deaf 123 p=1");
        faultAt(6, "begin /");
        faultAt(6, "begin :");
    }

    @Holds(promise = 9, says = "E: T or T|E. T: F or F&T.")
    void eithersAndBoths() {
        reads("deaf 1 p=1|q=1", 0);
        reads("deaf 1 p=1&q=1", 0);
        reads("deaf 1 p=1|q=1&k=1|v=1&w=1&d=1", 0);
        faultAt(7, "deaf 1 ");
        faultAt(7, "deaf 1 |p=1");
        faultAt(7, "deaf 1 &p=1");
        faultAt(11, "deaf 1 p=1|");
        faultAt(11, "deaf 1 p=1&");
        faultAt(11, "deaf 1 p=1||q=1");
        faultAt(11, "deaf 1 p=1&&q=1");
        faultAt(11, "deaf 1 p=1&|q=1");
        faultAt(10, "deaf 1 p=1q=1");
        faultAt(10, "deaf 1 p=1(q=1)");
        faultAt(10, "deaf 1 p=1!q=1");
        // & binds before |
        heard("deaf 1 w=0|w=1&p=0", 14);
        heard("deaf 1 p=0&w=1|w=0", 14);
        heard("deaf 1 w=0|w=1|w=2", 8);
        heard("deaf 1 w>0&w>1&w>2", 7);
        heard("deaf 1 w=0&p=1|w=1&p=0|w=2&p=1", 10);
        heard("deaf 1 w=2&p=1", 11);
        heard("deaf 1 p=0&p=1", 15);
        heard("deaf 1 p=1&w=2", 11);
        heard("deaf 1 p=0|w=2", 11);
        heard("deaf 1 w>0" + "&w>0".repeat(22), 1);
        heard("deaf 1 w=0" + "|w=0".repeat(22), 14);
    }

    @Holds(promise = 9, says = "F: !F, (E), or a TEST: a letter, < or = or >, a number (1 or 2 digits):")
    void notBracketsOrATest() {
        reads("deaf 1 !p=1", 0);
        reads("deaf 1 (p=1)", 0);
        reads("deaf 1 !(p=1|!q=1)&(!(k=1))", 0);
        reads("deaf 1 p<0", 0);
        reads("deaf 1 p=9", 0);
        reads("deaf 1 p>00", 0);
        reads("deaf 1 p>99", 0);
        faultAt(8, "deaf 1 ()");
        faultAt(8, "deaf 1 !");
        faultAt(8, "deaf 1 (");
        faultAt(8, "deaf 1 !)");
        faultAt(7, "deaf 1 )");
        faultAt(10, "deaf 1 p=1)");
        faultAt(11, "deaf 1 (p=1");
        faultAt(11, "deaf 1 (p=1;begin 1");
        faultAt(12, "deaf 1 (p=1))");
        faultAt(7, "deaf 1 1=1");
        faultAt(7, "deaf 1 =1");
        faultAt(8, "deaf 1 p");
        faultAt(8, "deaf 1 pp=1");
        faultAt(8, "deaf 1 p1");
        faultAt(9, "deaf 1 p=");
        faultAt(9, "deaf 1 p<=1");
        faultAt(9, "deaf 1 p=p");
        faultAt(9, "deaf 1 p=-1");
        faultAt(11, "deaf 1 p=100");
        heard("deaf 1 !w=0", 1);
        heard("deaf 1 !w=0&w<2", 13);
        heard("deaf 1 !(w=0&w<2)", 1);
        heard("deaf 1 (w=0|w=1)&p=0", 15);
        heard("deaf 1 !!w=0", 14);
    }

    @Holds(promise = 9, says = "a letter, < or = or >,")
    void otherSigns() {
        for (int sign = 0; sign <= 127; sign++) {
            String letter = String.valueOf((char) sign);
            boolean isLetter = "pqkvwd".contains(letter);
            boolean isNest = "(!".contains(letter);
            if (!isNest) {
                reads("deaf 1 " + letter + "=1", isLetter ? 0 : -17);
            }
            reads("deaf 1 p" + letter + "1", "<=>".contains(letter) ? 0 : -18);
        }
    }

    @Holds(promise = 9, says = "A ( or ! within 4 others is none.")
    void fourDeepAtMost() {
        reads("deaf 1 ((((p=1))))", 0);
        reads("deaf 1 !!!!p=1", 0);
        reads("deaf 1 !(!(p=1))", 0);
        faultAt(11, "deaf 1 (((((p=1)))))");
        faultAt(11, "deaf 1 !!!!!p=1");
        faultAt(11, "deaf 1 ((((!p=1))))");
        faultAt(11, "deaf 1 !!!!(p=1)");
        faultAt(11, "deaf 1 !(!((p=1)))");
        faultAt(16, "deaf 1 (((!p=1|!!p=2)))");
        // what is closed again is around nothing more
        reads("deaf 1 ((((p=1))))|((((p=1))))&!!!!p=1", 0);
        reads("deaf 1 !!!!p=1;deaf 1 !!!!p=1", 0);
        reads("deaf 1 (((!p=1|!p=2)&!p=3))", 0);
        heard("deaf 1 !!!!w=0", 14);
        heard("deaf 1 ((((w=0))))", 14);
        heard("deaf 1 !(!(w=0|w=1))", 12);
        heard("deaf 1 p=0|w<9&(p=0|w<9&(p=0|w<9&(p=0|w<9&(p=0|w<9&w=0))))", 14);
    }

    // ---- promise 9: the FAULT

    @Holds(promise = 9, says = "The FAULT: the place of the first byte with which none begins so")
    void theFirstByteOfNone() {
        faultAt(0, "x");
        faultAt(0, "xxxx");
        faultAt(2, "lo0d 1 p=1;x");
        faultAt(11, "begin 1;begun 1;x");
        faultAt(10, "deaf 1 p=1x");
        RefusedTwice x = new RefusedTwice();
        x.feed(0);
        due("sign 0", x.street(), -10);
        due("sign 127", reads(x, "begin 1" + (char) 127), -17);
        due("sign 0 behind all", reads(x, "begin 1" + (char) 0), -17);
    }

    @Holds(promise = 9, says = "(the end of THE TEXT, if it ends too early).")
    void theEndOfTheText() {
        String street = "loud 12 p=12&!(q<3);begin 4";
        for (int end = 0; end < street.length(); end++) {
            boolean isOne = end == 11 || end == 12 || end == 19;
            reads(street.substring(0, end), isOne ? 0 : -10 - end);
        }
        reads(street, 0);
    }

    @Holds(promise = 9, says = "if it ends too early).")
    void theEndOfHundredBytes() {
        String tests = "deaf 1 p=1" + "|p=11".repeat(17);
        for (String end : new String[] {"|(p=1", "|!(p<", "|((!(", "|p<1|", "&p<1&", "|!!!p", "&p<1;"}) {
            due("its length", tests.length() + end.length(), 100);
            faultAt(100, tests + end);
        }
        faultAt(100, "begin 10;" + tests.substring(0, 85) + ";begin");
        faultAt(100, "begin 10;" + tests.substring(0, 84) + ";begin ");
        faultAt(100, "begin 10;" + tests.substring(0, 85) + ";deaf ");
    }

    @Holds(promise = 9, says = "THE TEXT, which is empty then,")
    void nothingOfAnotherTextIsLeft() {
        RefusedTwice x = kinds(SCORNER, SCORNER);
        due("a FAULT", reads(x, "deaf 5 w=0;deaf 5 w=0;begin 7;loud 1 p=1;x"), -51);
        for (String text : new String[] {"", "deaf", "deaf ", "deaf 5", "deaf 5 ", "deaf 5 w", "deaf 5 w=", "deaf 5 w=0;"}) {
            due("'" + text + "' ends too early", reads(x, text), -10 - text.length());
        }
        due("a STREET", reads(x, "loud 1 w<9"), 0);
        due("all is HEARD", counting(x, 0, 1), 15);
        due("told(1)", x.told(1), 0);
        for (int i = 0; i < 3; i++) {
            due("a FAULT of many TESTS", reads(x, "loud 1 w=1" + "|w=1".repeat(22) + ";"), -109);
        }
        due("a STREET", reads(x, "deaf 1 w=1|w=3"), 1);
        due("0 and 2 are HEARD", counting(x, 0, 1), 5);
    }

    // ---- promise 9: what it answers

    @Holds(promise = 9, says = "THE TEXT, which is empty then, is a STREET, and holds: its number.")
    void theTextIsEmptyThen() {
        RefusedTwice x = new RefusedTwice();
        due("street()", reads(x, "begin 3"), 0);
        due("count(5)", x.count(5), 0);
        due("count(1)", x.count(1), 1);
        due("it holds", x.told(1), 3);
        due("the next", reads(x, "begin 4"), 1);
        due("it holds", x.told(1), 4);
        due("of an empty text", x.street(), -10);
    }

    @Holds(promise = 9, says = "The newest STREET holds (6 at most);")
    void theNewestHolds() {
        RefusedTwice x = new RefusedTwice();
        for (int i = 0; i < 6; i++) {
            due("street()", reads(x, "begin " + (9 - i)), i);
            due("told(1)", x.told(1), 9 - i);
            due("count(1)", x.count(1), i + 1);
        }
        due("a seventh", reads(x, "begin 1"), FULL);
        due("the sixth holds", x.told(1), 4);
    }

    @Holds(promise = 9, says = "without one there are no CLAUSES.")
    void withoutAStreet() {
        RefusedTwice x = kinds(SCORNER, SCORNER);
        due("all is HEARD", counting(x, 0, 1), 15);
        due("BEGIN", x.told(1), 0);
        reads(x, "deaf 9 p=0;begin");
        due("what is no STREET", counting(x, 0, 1), 15);
    }

    @Holds(promise = 9, says = "FULL: there are 6 (THE TEXT stays);")
    void sixStreetsAreAll() {
        RefusedTwice x = new RefusedTwice();
        for (int i = 0; i < 6; i++) {
            reads(x, "begin 1");
        }
        due("a seventh", reads(x, "begin 2"), FULL);
        due("THE TEXT stays", x.count(5), 7);
        due("more of it", x.feed('x'), 8);
        due("though it is none", x.street(), FULL);
        due("THE TEXT stays", x.count(5), 8);
        due("count(1)", x.count(1), 6);
        due("told(1)", x.told(1), 1);
    }

    @Holds(promise = 9, says = "-10 less the FAULT (the one that held holds).")
    void theOneThatHeldHolds() {
        RefusedTwice x = kinds(SCORNER, SCORNER);
        reads(x, "deaf 1 w=0;begin 0");
        due("a FAULT", reads(x, "deaf 1 w>0;begin 9;"), -29);
        due("words HEARD", counting(x, 0, 1), 14);
        due("told(1)", x.told(1), 0);
        due("count(1)", x.count(1), 1);
        due("THE TEXT is empty", x.count(5), 0);
        due("the next", reads(x, "deaf 1 w=3"), 1);
        due("words HEARD", counting(x, 0, 1), 7);
    }

    // ---- promise 9: who is HEARD

    @Holds(promise = 9, says = "of a NO on a DAY p who says it, q to whom, k the KIND, v the v of who says it, w the WORD,")
    void letters() {
        String[] letters = {"p", "q", "k", "v"};
        int[] values = {1, 2, SCORNER, 7};
        for (int i = 0; i < 4; i++) {
            compares(letters[i], values[i], 13);
        }
        heard("deaf 1 w<1", 14);
        heard("deaf 1 w<3", 8);
        heard("deaf 1 w<4", 0);
        heard("deaf 1 w<0", 15);
        heard("deaf 1 w=3", 7);
        heard("deaf 1 w=4", 15);
        heard("deaf 1 w>0", 1);
        heard("deaf 1 w>2", 7);
        heard("deaf 1 w>3", 15);
    }

    /** < and = and > of a letter hold just on the right side of its value. */
    private void compares(String letter, int value, int day) {
        for (int n : new int[] {0, Math.max(value - 1, 0), value, value + 1, 10 + value, 99}) {
            heard("deaf 1 " + letter + "<" + n, day, value < n ? 0 : 15);
            heard("deaf 1 " + letter + "=" + n, day, value == n ? 0 : 15);
            heard("deaf 1 " + letter + ">" + n, day, value > n ? 0 : 15);
        }
        heard("deaf 1 " + letter + "=0" + value, day, 0);
    }

    @Holds(promise = 9, says = "d the DAY modulo 10.")
    void dayModuloTen() {
        compares("d", 0, 0);
        compares("d", 9, 9);
        compares("d", 0, 10);
        compares("d", 9, 19);
        compares("d", 9, 9999);
    }

    @Holds(promise = 9, says = "k the KIND,")
    void eachKind() {
        for (int kind : new int[] {ONE, KIND, SCORNER, MUTE, SHY, TOLD}) {
            RefusedTwice x = Check.people(kind, 2, LOUD, 0);
            x.row(0, 0, 1);
            reads(x, "deaf 1 !k=" + kind);
            due("k=" + kind, counting(x, 0, 1) == 0 ? 0 : 1, 1);
            reads(x, "deaf 1 k=" + kind);
            due("deaf to k=" + kind, counting(x, 0, 1), 0);
        }
    }

    @Holds(promise = 9, says = "HEARD is a NO, if 1, and the n of all loud whose E holds, less those of all deaf, together, is above 0.")
    void heardAboveZero() {
        heard("deaf 0 p=1", 15);
        heard("deaf 1 p=1", 0);
        heard("deaf 1 p=1;loud 1 p=1", 15);
        heard("loud 1 p=1;deaf 2 p=1", 0);
        heard("deaf 99 p=1;loud 98 p=1", 0);
        heard("deaf 99 p=1;loud 99 p=1", 15);
        heard("loud 99 p=1;loud 99 p=1;loud 1 p=1;deaf 99 p=1;deaf 99 p=1;deaf 1 p=1;deaf 1 w=2", 11);
        heard("loud 9 p=0;deaf 1 p=1", 0);
        heard("deaf 9 p=0", 15);
        heard("deaf 1 w=0;deaf 1 w=1", 12);
        heard("deaf 1 w=1;loud 1 w=1;deaf 1 w=2", 11);
        heard("loud 2 w<2;deaf 2 w>0;deaf 1 w=0", 3);
    }

    @Holds(promise = 9, says = "the n of all loud whose E holds, less those of all deaf, together,")
    void beginIsNoNumberOfTheSum() {
        heard("begin 9", 15);
        heard("begin 9;deaf 1 p=1", 0);
        heard("deaf 1 p=1;begin 9", 0);
    }

    @Holds(promise = 9, says = "BEGIN (0 without): the last one's n.")
    void theLastBegin() {
        RefusedTwice x = new RefusedTwice();
        reads(x, "begin 9;deaf 1 p=1;begin 2;loud 1 p=1");
        due("of two", x.told(1), 2);
        reads(x, "begin 2;begin 99");
        due("of two", x.told(1), 99);
        reads(x, "begin 7;begin 0");
        due("0", x.told(1), 0);
        reads(x, "begin 05");
        due("05", x.told(1), 5);
        reads(x, "deaf 1 p=1");
        due("without", x.told(1), 0);
    }
}
