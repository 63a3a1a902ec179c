/** Promises 8 and 9: the text, streets, their faults, and who is heard. */
public final class StreetTest {
    private static final Check CHECK = new Check();

    private static void due(String call, long got, long want) {
        CHECK.due(call, got, want);
    }

    public static void main(String[] args) {
        feeding();
        reading();
        faults();
        nesting();
        clauses();
        readingAnew();
        six();
        hearing();
        letters();
        binding();
        begins();
        CHECK.end();
    }

    private static void feeding() {
        RefusedTwice x = new RefusedTwice();
        due("feed(-1)", x.feed(-1), -2);
        due("feed(128)", x.feed(128), -2);
        due("feed(0)", x.feed(0), 1);
        due("feed(127)", x.feed(127), 2);
        for (int i = 3; i <= 100; i++) {
            due("feed(97)", x.feed(97), i);
        }
        due("feed(97) beyond 100", x.feed(97), -4);
        due("feed(128) beyond 100", x.feed(128), -2);
        due("count(5)", x.count(5), 100);
        due("street()", x.street(), -10);
        due("count(5) behind a fault", x.count(5), 0);
        due("feed(97)", x.feed(97), 1);
    }

    /** What street() says of a text. */
    private static void reads(String text, int want) {
        due("street of " + text, Check.reads(new RefusedTwice(), text), want);
    }

    private static void faultAt(String text, int place) {
        reads(text, -10 - place);
    }

    private static void reading() {
        reads("loud 0 p<1", 0);
        reads("loud 10 q=10", 0);
        reads("deaf 99 k>99", 0);
        reads("begin 0", 0);
        reads("begin 00", 0);
        reads("deaf 1 v=1&w=2|d<3&!p=1", 0);
        reads("deaf 1 !(p=1|q=2)&!!k=3", 0);
        reads("begin 1;loud 1 p=1;deaf 2 q=2;begin 3", 0);
        StringBuilder full = new StringBuilder("loud 1 p=11");
        for (int i = 0; i < 17; i++) {
            full.append("|p=11");
        }
        reads(full + "|p=1", 0);
        faultAt(full + "|p==", 99);
        faultAt(full + "&(p=", 100);
        faultAt(full + "|!((", 100);
        faultAt(full + "|(p<", 100);
    }

    /** Nothing of a text that was no street is left in the next. */
    private static void readingAnew() {
        RefusedTwice x = Check.people(0, 0, 0, 0);
        due("a fault", Check.reads(x, "begin 5;deaf 9 p=0;loud 1 p=1;x"), -10 - 30);
        due("ends too early, whatever was there", Check.reads(x, "begin 5;deaf 9 "), -10 - 15);
        due("ends too early, whatever was there", Check.reads(x, "begin 5;deaf"), -10 - 12);
        due("none holds", x.told(1), 0);
        due("street", Check.reads(x, "loud 1 p=0"), 0);
        due("no begin", x.told(1), 0);
        due("not deaf", x.counts(0, 1, 0), 1);
        for (int i = 0; i < 4; i++) {
            due("a fault", Check.reads(x, "deaf 1 " + "p=0|".repeat(20)), -10 - 87);
        }
        due("street", Check.reads(x, "deaf 1 w=1|w=3"), 1);
        for (int w = 0; w < 4; w++) {
            due("heard", x.counts(0, 1, w), w % 2 == 0 ? 1 : 0);
        }
    }

    private static void faults() {
        faultAt("", 0);
        faultAt("x", 0);
        faultAt("load 1 p=1", 2);
        faultAt("beg", 3);
        faultAt("begin", 5);
        faultAt("begin1", 5);
        faultAt("begin ", 6);
        faultAt("begin x", 6);
        faultAt("begin  1", 6);
        faultAt("begin 123", 8);
        faultAt("begin 1 ", 7);
        faultAt("begin 1;", 8);
        faultAt(";begin 1", 0);
        faultAt("loud", 4);
        faultAt("loud 1", 6);
        faultAt("loud 1;", 6);
        faultAt("loud 123 p=1", 7);
        faultAt("loud 1 ", 7);
        faultAt("loud 1  p=1", 7);
        faultAt("loud 1 x=1", 7);
        faultAt("loud 1 1=p", 7);
        faultAt("loud 1 p", 8);
        faultAt("loud 1 p!1", 8);
        faultAt("loud 1 p=", 9);
        faultAt("loud 1 p=q", 9);
        faultAt("loud 1 p=123", 11);
        faultAt("loud 1 p=1 ", 10);
        faultAt("loud 1 p=1&", 11);
        faultAt("loud 1 p=1&|", 11);
        faultAt("loud 1 p=1|", 11);
        faultAt("loud 1 p=1)", 10);
        faultAt("loud 1 (p=1", 11);
        faultAt("loud 1 ()", 8);
        faultAt("loud 1 (p=1;", 11);
        faultAt("loud 1 !", 8);
        faultAt("loud 1 p=1!", 10);
        faultAt("loud 1 p=1(", 10);
        faultAt("Loud 1 p=1", 0);
        faultAt("deaf 1 p=1;;", 11);
        faultAt("deaf 1 p=1; deaf 1 p=1", 11);
        faultAt("deaf 1 p=1,", 10);
    }

    private static void nesting() {
        reads("deaf 1 ((((p=1))))", 0);
        faultAt("deaf 1 (((((p=1)))))", 11);
        reads("deaf 1 !!!!p=1", 0);
        faultAt("deaf 1 !!!!!p=1", 11);
        reads("deaf 1 !(!(p=1))", 0);
        faultAt("deaf 1 !(!(!p=1))", 11);
        faultAt("deaf 1 !(!((p=1)))", 11);
        // what is closed is around nothing more
        reads("deaf 1 !!!!p=1&!!!!p=1|((((p=1))))&(((!p=1)))", 0);
        reads("deaf 1 (((!p=1|!p=2)&!p=3))", 0);
        faultAt("deaf 1 (((!p=1|!!p=2)))", 16);
        faultAt("deaf 1 ((((p=1)))", 17);
    }

    private static void clauses() {
        StringBuilder ten = new StringBuilder("begin 1");
        for (int i = 1; i < 10; i++) {
            ten.append(";begin ").append(i);
        }
        reads(ten.toString(), 0);
        faultAt(ten + ";", 79);
        faultAt(ten + ";begin 1", 79);
        faultAt(ten.substring(0, 72), 72);
    }

    private static void six() {
        RefusedTwice x = Check.people(0, 0, 0, 0);
        for (int i = 0; i < 6; i++) {
            due("a fault ahead of street " + i, Check.reads(x, "begin"), -15);
            due("count(1) behind a fault", x.count(1), i);
            due("street " + i, Check.reads(x, "begin " + i), i);
            due("begin", x.told(1), i);
            due("count(5)", x.count(5), 0);
        }
        due("a seventh", Check.reads(x, "begin 9"), -4);
        due("the text stays", x.count(5), 7);
        due("the sixth holds", x.told(1), 5);
        due("a seventh with a fault", Check.reads(x, ";"), -4);
        due("the text stays", x.count(5), 8);
        due("count(1)", x.count(1), 6);
    }

    private static void heard(String text, int one, int other, int words) {
        RefusedTwice x = Check.people(2, 0, 2, 7, 2, 8);
        x.pass(13);
        due("street of " + text, Check.reads(x, text), 0);
        for (int w = 0; w < 4; w++) {
            due("heard by " + text + ": " + w, x.counts(one, other, w), words >> w & 1);
        }
    }

    private static void hearing() {
        heard("deaf 0 p=0", 0, 1, 15);
        heard("deaf 1 p=0", 0, 1, 0);
        heard("deaf 1 p=0", 1, 0, 15);
        heard("deaf 1 p=0;loud 1 w=1", 0, 1, 2);
        heard("deaf 9 p=0;loud 8 w=1;loud 1 w>0", 0, 1, 2);
        heard("deaf 9 p=0;loud 8 w<4", 0, 1, 0);
        heard("deaf 9 p=0;loud 9 w<4", 0, 1, 15);
        heard("loud 99 p=0;deaf 99 p=0;deaf 1 w=2", 0, 1, 11);
        heard("deaf 2 w=0;loud 1 q=1;loud 1 k=2", 0, 1, 15);
        heard("begin 1;".repeat(6) + "deaf 1 w=0;deaf 1 w=1;deaf 1 w=2;deaf 1 w=2", 0, 1, 8);
    }

    private static void letters() {
        heard("deaf 1 q=2", 0, 2, 0);
        heard("deaf 1 q=2", 0, 1, 15);
        heard("deaf 1 k=2", 0, 1, 0);
        heard("deaf 1 k>2", 0, 1, 15);
        heard("deaf 1 v=7", 1, 2, 0);
        heard("deaf 1 v=8", 1, 2, 15);
        heard("deaf 1 d=3", 0, 1, 0);
        heard("deaf 1 d=13", 0, 1, 15);
        heard("deaf 1 w<2", 0, 1, 12);
        heard("deaf 1 w=2", 0, 1, 11);
        heard("deaf 1 w>2", 0, 1, 7);
        heard("deaf 1 w>0", 0, 1, 1);
        heard("deaf 1 d<3", 0, 1, 15);
        heard("deaf 1 d<4", 0, 1, 0);
        heard("deaf 1 d>3", 0, 1, 15);
        heard("deaf 1 d>2", 0, 1, 0);
    }

    private static void binding() {
        heard("deaf 1 w=0|w=1&p=1", 0, 1, 14);
        heard("deaf 1 p=1&w=1|w=0", 0, 1, 14);
        heard("deaf 1 (w=0|w=1)&p=1", 0, 1, 15);
        heard("deaf 1 !w=0&w<2", 0, 1, 13);
        heard("deaf 1 !(w=0&w<2)", 0, 1, 1);
        heard("deaf 1 !(w=0|w=2)", 0, 1, 5);
        heard("deaf 1 !!w=0", 0, 1, 14);
        heard("deaf 1 !!!w=0", 0, 1, 1);
        heard("deaf 1 w=0|w=1|w=2", 0, 1, 8);
        heard("deaf 1 w>0&w<3&!w=1", 0, 1, 11);
        heard("deaf 1 w=0&p=0|w=1&p=0|w=2&p=1", 0, 1, 12);
        heard("deaf 1 p=1|(p=0&(w=0|(w=1&(w=1|p=1))))", 0, 1, 12);
        heard("deaf 1 w=3|p=1|(w=0&(p=1|w=1|(w=0&p=0)))", 0, 1, 6);
    }

    private static void begins() {
        RefusedTwice x = Check.people(0, 0, 0, 0);
        Check.reads(x, "begin 20;deaf 1 w=0;begin 5");
        due("begin: the last one's", x.told(1), 5);
        Check.reads(x, "begin 7;x");
        due("the one that held holds", x.told(1), 5);
        x.pass(5);
        due("and is deaf", x.counts(0, 1, 0), 0);
        due("and loud", x.counts(0, 1, 1), 1);
        Check.reads(x, "loud 1 p=0");
        due("the newest holds", x.counts(0, 1, 0), 1);
        due("without begin", x.told(1), 0);
        Check.reads(x, "begin 99");
        due("begin 99", x.told(1), 99);
    }
}
