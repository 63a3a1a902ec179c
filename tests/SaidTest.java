/** Promises 13 to 17: what was said, which of it is wrong, who can say it, odds and means. */
public final class SaidTest {
    private static final Check CHECK = new Check();

    private static void due(String call, long got, long want) {
        CHECK.due(call, got, want);
    }

    public static void main(String[] args) {
        saying();
        wrong();
        wrongByNow();
        can();
        odds();
        means();
        CHECK.end();
    }

    private static void saying() {
        RefusedTwice x = Check.people(0, 0, 0, 0);
        int[][] none = {{2, 0, 0}, {-2, 0, 0}, {0, 2, 0}, {0, -1, 0}, {0, 1, 4}, {0, 1, -1}, {0, 0, 4}};
        for (int[] n : none) {
            due("say NONE", x.say(n[0], n[1], n[2], 21, true), -1);
        }
        due("say BAD: one is both", x.say(0, 0, 0, 0, true), -2);
        due("say BAD: n above", x.say(0, 1, 0, 21, true), -2);
        due("say BAD: n below", x.say(0, 1, 0, -1, true), -2);
        due("count(2)", x.count(2), 0);
        for (int i = 1; i <= 5; i++) {
            due("say", x.say(0, 1, 3, 20, true), i);
        }
        due("say FULL", x.say(0, 1, 0, 0, true), -4);
        due("say BAD at 5", x.say(0, 1, 0, 21, true), -2);
        due("say NONE at 5", x.say(0, 1, 4, 0, true), -1);
        due("count(2)", x.count(2), 5);
        due("say of one -1", x.say(-1, 99, -7, 99, false), 0);
        due("count(2)", x.count(2), 0);
        due("say anew", x.say(0, 1, 0, 0, true), 1);
    }

    private static void wrong() {
        RefusedTwice x = Check.people(1, 0, 5, 0);
        due("nothing said", x.wrong(), -5);
        x.say(0, 1, 0, 0, true);
        x.say(0, 1, 0, 1, false);
        x.say(1, 0, 2, 1, true);
        due("all are so", x.wrong(), -5);
        x.say(0, 1, 0, 3, true);
        due("not on an odd day", x.wrong(), 3);
        x.say(1, 0, 2, 0, false);
        due("the first of two", x.wrong(), 3);
        x.say(-1, 0, 0, 0, true);
        x.say(1, 0, 2, 0, false);
        due("loud counts", x.wrong(), 0);
        RefusedTwice shy = Check.people(4, 1, 4, 2);
        shy.say(0, 1, 1, 0, false);
        shy.say(1, 0, 2, 0, false);
        due("each by its own v", shy.wrong(), -5);
        shy.say(1, 0, 1, 0, false);
        due("v 2 is not 1", shy.wrong(), 2);
    }

    private static void wrongByNow() {
        RefusedTwice x = Check.people(0, 0, 0, 0);
        x.say(0, 1, 0, 0, true);
        x.say(0, 1, 0, 1, true);
        due("as now", x.wrong(), -5);
        x.refuse(0, 1, 1);
        due("not on the day of last", x.wrong(), 0);
        x.pass(1);
        due("the next day", x.wrong(), -5);
        x.refuse(0, 1, 0);
        x.pass(1);
        due("the word is used", x.wrong(), 0);
        x.say(-1, 0, 0, 0, true);
        x.say(0, 1, 2, 5, true);
        due("days from now, not one upon another", x.wrong(), -5);
        Check.reads(x, "begin 8");
        due("begin is day 8, now is 2", x.wrong(), 0);
        x.pass(1);
        due("now is 3", x.wrong(), -5);
        Check.reads(x, "deaf 1 d=8");
        due("deaf on day 8", x.wrong(), 0);
    }

    private static void can() {
        RefusedTwice x = Check.people(4, 0, 0, 3, 5, 0);
        due("NONE: person", x.can(3, 0), -1);
        due("NONE: person below", x.can(-1, 0), -1);
        due("NONE: what", x.can(0, 2), -1);
        due("NONE: what below", x.can(0, -1), -1);
        due("nothing said", x.can(0, 0), 10);
        due("the least", x.can(0, 1), 0);
        x.say(0, 1, 0, 0, true);
        due("v modulo 4 is not 0: 1 2 3 5 6 7 9", x.can(0, 0), 7);
        due("the least", x.can(0, 1), 1);
        x.say(0, 1, 1, 2, true);
        due("nor 1: 2 3 6 7", x.can(0, 0), 4);
        due("the least", x.can(0, 1), 2);
        x.say(0, 2, 2, 0, false);
        due("but 2: 2 6", x.can(0, 0), 2);
        due("what others say does not matter", x.can(1, 0), 10);
        x.say(1, 0, 0, 0, false);
        due("wrong by its own alone", x.can(1, 0), 0);
        due("none", x.can(1, 1), -5);
        due("of the first still", x.can(0, 0), 2);
        Check.reads(x, "deaf 1 v<7;loud 1 v=2");
        x.say(-1, 0, 0, 0, true);
        x.say(1, 0, 0, 0, true);
        due("by the street: 2 7 8 9", x.can(1, 0), 4);
        due("the least", x.can(1, 1), 2);
        x.say(2, 0, 0, 0, false);
        due("loud whatever v", x.can(2, 0), 0);
        Check.reads(x, "deaf 1 v<9");
        x.say(-1, 0, 0, 0, true);
        x.say(1, 0, 0, 0, true);
        due("9 alone", x.can(1, 0), 1);
        due("the least is 9", x.can(1, 1), 9);
    }

    private static void odds() {
        RefusedTwice x = Check.people(4, 1, 0, 0, 3, 0, 6, 0, 5, 0);
        long no = RefusedTwice.NO;
        due("NO: one", x.odds(5, 0, 0), no);
        due("NO: other", x.odds(0, -1, 0), no);
        due("NO: one is both", x.odds(1, 1, 0), no);
        due("NO: part", x.odds(0, 1, 2), no);
        due("NO: part below", x.odds(0, 1, -1), no);
        long[][] due = {{3, 4}, {1, 1}, {1, 4}, {0, 1}, {1, 1}};
        for (int i = 0; i < 5; i++) {
            due("odds above, kind of " + i, x.odds(i, (i + 1) % 5, 0), due[i][0]);
            due("odds below, kind of " + i, x.odds(i, (i + 1) % 5, 1), due[i][1]);
        }
        Check.reads(x, "deaf 1 w<2");
        due("a half above", x.odds(1, 0, 0), 1);
        due("a half below", x.odds(1, 0, 1), 2);
        x.refuse(4, 0, 0);
        due("none today above", x.odds(4, 0, 0), 0);
        due("none today below", x.odds(4, 0, 1), 1);
    }

    private static void means() {
        RefusedTwice x = new RefusedTwice();
        due("mean of nobody", x.mean(0), RefusedTwice.NO);
        due("mean of nobody", x.mean(1), RefusedTwice.NO);
        for (int i = 0; i < 6; i++) {
            x.one(5, i);
        }
        due("mean(2)", x.mean(2), RefusedTwice.NO);
        due("mean(-1)", x.mean(-1), RefusedTwice.NO);
        due("0 above", x.mean(0), 0);
        due("1 below", x.mean(1), 1);
        long[][] due = {{1, 6}, {1, 3}, {1, 2}, {2, 3}, {5, 6}, {1, 1}, {7, 6}, {4, 3}};
        for (int i = 0; i < 8; i++) {
            x.refuse(i / 5, (i / 5 + 1 + i % 5) % 6, 0);
            due("above at " + (i + 1), x.mean(0), due[i][0]);
            due("below at " + (i + 1), x.mean(1), due[i][1]);
        }
    }
}
