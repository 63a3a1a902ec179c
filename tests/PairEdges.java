import java.util.ArrayList;
import java.util.List;

/** The edges of promises 4, 10 and 12 that are of days to come: WORD, TWICE, AWAIT, NEAR, WALL, MATCH. */
final class PairEdges extends Edges {
    // ---- promise 4: WORD

    @Holds(promise = 4, says = "WORD of one to another: the first (0 .. 3) by which a NO COUNTS today (-5: none).")
    void firstWordThatCounts() {
        RefusedTwice x = Check.people(SCORNER, 0, SHY, 0, MUTE, 0, TOLD, 0);
        due("the first", x.between(0, 1, 3), 0);
        due("the first of a shy one with v 0", x.between(1, 0, 3), 1);
        due("of a mute one", x.between(2, 0, 3), 3);
        due("of a told one, none", x.between(3, 0, 3), NIL);
        reads(x, "deaf 1 w<3");
        due("the last", x.between(0, 1, 3), 3);
        reads(x, "deaf 1 w<4");
        due("none", x.between(0, 1, 3), NIL);
    }

    @Holds(promise = 4, says = "3 WORD (-5),")
    void wordOfToday() {
        RefusedTwice x = kinds(KIND, LOUD);
        x.refuse(1, 0, 0);
        due("on the day of LAST", x.between(1, 0, 3), NIL);
        x.pass(1);
        due("a day later", x.between(1, 0, 3), 0);
        due("of KIND on an odd day", x.between(0, 1, 3), NIL);
    }

    @Holds(promise = 4, says = "v the v of who says it,")
    void whoSaysItHasTheV() {
        RefusedTwice x = Check.people(SCORNER, 3, SCORNER, 5);
        reads(x, "deaf 1 v=3");
        due("WORD of v 3", x.between(0, 1, 3), NIL);
        due("WORD of v 5", x.between(1, 0, 3), 0);
        due("TWICE of v 3", x.between(0, 1, 4), NIL);
        due("TWICE of v 5", x.between(1, 0, 4), 1);
    }

    // ---- promise 4: TWICE

    @Holds(promise = 4, says = "4 TWICE (-5),")
    void twiceOrNot() {
        RefusedTwice x = kinds(LOUD, TOLD);
        due("of a loud one", x.between(0, 1, 4), 1);
        due("of a told one", x.between(1, 0, 4), NIL);
    }

    @Holds(promise = 4, says = "TWICE of one to another: the fewest DAYS n (0 .. 30)")
    void twiceInThirtyDays() {
        for (int kind : new int[] {ONE, LOUD}) {
            RefusedTwice x = kinds(kind, ONE);
            reads(x, "begin 29");
            due("on days 29 and 30", x.between(0, 1, 4), 30);
            reads(x, "begin 30");
            due("on days 30 and 31", x.between(0, 1, 4), NIL);
            x.pass(1);
            due("on days 30 and 31, a day later", x.between(0, 1, 4), 30);
        }
        RefusedTwice once = kinds(LOUD, ONE);
        once.refuse(0, 1, 0);
        reads(once, "begin 30");
        due("the second on day 30", once.between(0, 1, 4), 30);
        reads(once, "begin 31");
        due("the second on day 31", once.between(0, 1, 4), NIL);
    }

    @Holds(promise = 4, says = "so that, by one NO at most each DAY from this one to the n-th from it,")
    void oneNoEachDay() {
        RefusedTwice x = kinds(LOUD, ONE);
        due("today and tomorrow", x.between(0, 1, 4), 1);
        x.refuse(0, 1, 0);
        due("tomorrow", x.between(0, 1, 4), 1);
        x.pass(1);
        due("today", x.between(0, 1, 4), 0);
        RefusedTwice byThree = kinds(ONE, ONE);
        byThree.refuse(0, 1, 3);
        byThree.pass(1);
        due("one more than by 3, today", byThree.between(0, 1, 4), 0);
        RefusedTwice even = kinds(KIND, KIND);
        due("days 0 and 2", even.between(0, 1, 4), 2);
        even.pass(1);
        due("days 2 and 4, from 1", even.between(0, 1, 4), 3);
        even.pass(1);
        even.refuse(0, 1, 0);
        due("day 4, from 2", even.between(0, 1, 4), 2);
        RefusedTwice told = kinds(TOLD, ONE);
        told.row(0, 3, 1);
        due("days 3 and 7", told.between(0, 1, 4), 7);
    }

    @Holds(promise = 4, says = "of WORDS well chosen, TALLY can be 2")
    void wordsWellChosen() {
        RefusedTwice x = kinds(ONE, ONE, MUTE);
        reads(x, "deaf 1 w>0");
        due("one word alone is HEARD: it wants two", x.between(0, 1, 4), NIL);
        reads(x, "deaf 1 w<3");
        due("a mute one says the same again", x.between(2, 1, 4), 1);
        // 0 or 3 on day 0, 0 alone on days 1 to 9: by 3 first it is 2 on day 1
        reads(x, "deaf 1 w=1|w=2;deaf 1 d>0&w=3");
        due("3, then 0", x.between(0, 1, 4), 1);
        // 0 or 3 on day 0, 3 alone on days 1 to 9: by 0 first
        reads(x, "deaf 1 w=1|w=2;deaf 1 d>0&w=0");
        due("0, then 3", x.between(0, 1, 4), 1);
        // 1 alone on day 0 and 1, 2 alone on day 5
        reads(x, "deaf 1 w=0|w=3;deaf 1 !d=5&w=2;deaf 1 d>1&w=1");
        due("1, then 2", x.between(0, 1, 4), 5);
    }

    @Holds(promise = 4, says = "of WORDS well chosen,")
    void wordsUsedBeforeAreNoChoice() {
        RefusedTwice x = kinds(ONE, SCORNER);
        x.refuse(0, 1, 0);
        x.refuse(1, 0, 0);
        reads(x, "deaf 1 w>0");
        due("0 is USED", x.between(0, 1, 4), NIL);
        due("a scorner does not mind", x.between(1, 0, 4), 1);
        reads(x, "deaf 1 w>1");
        due("1 is not", x.between(0, 1, 4), 1);
    }

    @Holds(promise = 4, says = "(0, if it is; -5: not by then).")
    void twiceOfWhatIsTwo() {
        RefusedTwice x = comesTo(kinds(LOUD, LOUD), row(0, 1, 2));
        due("it is 2", x.between(0, 1, 4), 0);
        reads(x, "begin 99;deaf 9 p<9");
        due("it is 2, whatever can be said", x.between(0, 1, 4), 0);
        due("not by then", x.between(1, 0, 4), NIL);
        RefusedTwice same = kinds(LOUD, LOUD);
        same.refuse(0, 1, 0);
        same.pass(1);
        same.refuse(0, 1, 0);
        due("on the day of LAST", same.between(0, 1, 4), 0);
    }

    @Holds(promise = 4, says = "All that follows is asked, goes on from how all is (DAYS beyond 9999, too), and changes nothing.")
    void daysBeyond9999() {
        RefusedTwice x = goes(kinds(KIND, ONE, TOLD), 9999);
        x.row(2, 0, 1);
        due("on days 10000 and 10002", x.between(0, 1, 4), 3);
        due("on days 10000 and 10004", x.between(2, 1, 4), 5);
        reads(x, "deaf 1 !d=8");
        due("on days 10008 and 10018", x.between(0, 1, 4), 19);
        due("AWAIT", x.between(0, 1, 5), 19);
        due("match(19, 0)", x.match(19, 0), 1);
        due("told(0)", x.told(0), 9999);
    }

    // ---- promise 4: AWAIT

    @Holds(promise = 4, says = "AWAIT of two: the more of TWICE either way")
    void theMoreOfBoth() {
        RefusedTwice x = kinds(ONE, KIND, LOUD);
        due("1 and 2", x.between(0, 1, 5), 2);
        due("2 and 1", x.between(1, 0, 5), 2);
        due("1 and 1", x.between(0, 2, 5), 1);
        RefusedTwice y = comesTo(kinds(LOUD, LOUD), row(0, 1, 1), row(1, 0, 1));
        due("0 and 0", y.between(0, 1, 5), 0);
    }

    @Holds(promise = 4, says = "(-5: either is -5, or one is WED).")
    void noAwait() {
        RefusedTwice x = kinds(TOLD, LOUD);
        due("the one's is -5", x.between(0, 1, 5), NIL);
        due("the other's is -5", x.between(1, 0, 5), NIL);
        RefusedTwice wed = comesTo(sixLoud(), row(0, 1, 2), row(1, 0, 2));
        due("both are WED", wed.between(0, 1, 5), NIL);
        due("the one is WED", wed.between(0, 2, 5), NIL);
        due("the other is WED", wed.between(2, 1, 5), NIL);
        due("neither is", wed.between(2, 3, 5), 1);
        due("TWICE though WED", wed.between(0, 2, 4), 1);
    }

    @Holds(promise = 4, says = "5 AWAIT (-5).")
    void awaitOfThirtyDays() {
        RefusedTwice x = kinds(LOUD, LOUD);
        reads(x, "begin 29");
        due("30", x.between(0, 1, 5), 30);
        reads(x, "begin 30");
        due("beyond", x.between(0, 1, 5), NIL);
    }

    // ---- promise 10: NEAR and WALL

    @Holds(promise = 10, says = "NEAR: two, neither WED, whose TALLIES are 1 and 2.")
    void talliesOfOneAndTwo() {
        for (int there = 0; there <= 2; there++) {
            for (int back = 0; back <= 2; back++) {
                RefusedTwice x = comesTo(kinds(LOUD, LOUD), row(0, 1, there), row(1, 0, back));
                due(there + " and " + back, x.told(4), there + back == 3 ? 1 : 0);
            }
        }
    }

    @Holds(promise = 10, says = "neither WED,")
    void nobodyWedIsNear() {
        RefusedTwice x = comesTo(sixLoud(), row(0, 1, 2), row(1, 0, 2), row(0, 2, 2), row(2, 0, 1), row(1, 3, 1),
                row(3, 1, 2));
        due("0 and 1 are WED", x.told(4), 0);
        due("told(5)", x.told(5), NIL);
        due("told(6)", x.told(6), 0);
        x.refuse(0, 1, 0);
        due("they are not", x.told(4), 2);
        due("told(5)", x.told(5), 2);
        due("told(6)", x.told(6), 3);
        RefusedTwice last = comesTo(sixLoud(), row(5, 0, 2), row(0, 5, 2), row(5, 4, 2), row(4, 5, 1));
        due("the greater number is WED", last.told(4), 0);
        RefusedTwice y = comesTo(sixLoud(), row(0, 1, 2), row(1, 0, 2), row(0, 2, 2), row(2, 0, 2));
        y.refuse(1, 0, 0);
        due("2 and 2, not WED", y.told(4), 0);
    }

    @Holds(promise = 10, says = "How many pairs are NEAR;")
    void allPairsNear() {
        RefusedTwice x = allNear(6);
        due("each with each", x.told(4), 15);
        due("two of them", allNear(2).told(4), 1);
    }

    /** So many people, each pair of whom is NEAR. */
    private static RefusedTwice allNear(int people) {
        List<int[]> rows = new ArrayList<>();
        RefusedTwice x = new RefusedTwice();
        for (int i = 0; i < people; i++) {
            x.one(LOUD, i);
            for (int j = 0; j < i; j++) {
                rows.add(row(i, j, 2));
                rows.add(row(j, i, 1));
            }
        }
        return comesTo(x, rows.toArray(new int[0][]));
    }

    @Holds(promise = 10, says = "the first (10 times the lesser and the greater number; of several the first; -5: none).")
    void theFirstPair() {
        for (int i = 0; i < 6; i++) {
            for (int j = i + 1; j < 6; j++) {
                RefusedTwice x = comesTo(sixLoud(), row(i, j, 1), row(j, i, 2));
                due(i + " and " + j, x.told(5), 10 * i + j);
            }
        }
        due("of all", allNear(6).told(5), 1);
        RefusedTwice x = comesTo(sixLoud(), row(3, 4, 2), row(4, 3, 1), row(5, 2, 2), row(2, 5, 1));
        due("2 and 5 ahead of 3 and 4", x.told(5), 25);
        due("none", sixLoud().told(5), NIL);
    }

    @Holds(promise = 10, says = "WALL: the set with the fewest PEOPLE without whom no pair is NEAR")
    void theFewestPeople() {
        RefusedTwice star = comesTo(sixLoud(), row(5, 0, 2), row(0, 5, 1), row(5, 1, 2), row(1, 5, 1), row(5, 2, 2),
                row(2, 5, 1));
        due("5 alone, not 0, 1 and 2", star.told(6), 32);
        due("all but one", allNear(6).told(6), 31);
        due("nobody", sixLoud().told(6), 0);
    }

    @Holds(promise = 10, says = "(as bits; of several the least as bits).")
    void theLeastAsBits() {
        due("0 or 1", allNear(2).told(6), 1);
        due("two of three", allNear(3).told(6), 3);
        RefusedTwice two = comesTo(sixLoud(), row(0, 5, 2), row(5, 0, 1), row(3, 2, 2), row(2, 3, 1));
        due("0 and 2", two.told(6), 5);
        RefusedTwice line = comesTo(sixLoud(), row(2, 3, 2), row(3, 2, 1), row(3, 4, 2), row(4, 3, 1), row(4, 5, 2),
                row(5, 4, 1));
        due("2 and 4, or 3 and 4, or 3 and 5", line.told(6), 20);
    }

    // ---- promise 12

    @Holds(promise = 12, says = "MATCH of n DAYS (0 .. 30): the most pairs, nobody in two of them,")
    void noneOrThirtyDays() {
        RefusedTwice today = comesTo(kinds(LOUD, LOUD), row(0, 1, 1), row(1, 0, 1));
        due("match(0, 0)", today.match(0, 0), 1);
        due("match(30, 0)", today.match(30, 0), 1);
        due("nobody in two", kinds(LOUD, LOUD, LOUD).match(30, 0), 1);
        due("three pairs at most", sixLoud().match(30, 0), 3);
        due("one alone", kinds(LOUD).match(30, 0), 0);
        due("nobody", new RefusedTwice().match(30, 0), 0);
    }

    @Holds(promise = 12, says = "AWAIT of each being n or less (not -5): how many;")
    void awaitIsNOrLess() {
        RefusedTwice x = kinds(LOUD, LOUD, TOLD);
        reads(x, "begin 29");
        due("AWAIT 30 in 30", x.match(30, 0), 1);
        due("AWAIT 30 in 29", x.match(29, 0), 0);
        reads(x, "begin 30");
        due("AWAIT -5 in 30", x.match(30, 0), 0);
        due("AWAIT -5 in 0", x.match(0, 0), 0);
        reads(x, "begin 0");
        due("AWAIT 1 in 1", x.match(1, 0), 1);
        due("AWAIT 1 in 0", x.match(0, 0), 0);
        RefusedTwice wed = comesTo(kinds(LOUD, LOUD, LOUD), row(0, 1, 2), row(1, 0, 2));
        due("who is WED", wed.match(30, 0), 0);
    }

    @Holds(promise = 12, says = "with whom one is (of several ways the first as a row by PEOPLE of with whom each is, nobody being 9 there; -5: with nobody).")
    void theFirstWay() {
        mates(kinds(LOUD, LOUD, LOUD), 1, 0, NIL);
        mates(kinds(LOUD, LOUD, LOUD, LOUD, LOUD), 1, 0, 3, 2, NIL);
        mates(sixLoud(), 1, 0, 3, 2, 5, 4);
        mates(kinds(TOLD, LOUD, LOUD), NIL, 2, 1);
        mates(kinds(LOUD, TOLD, LOUD), 2, NIL, 0);
        mates(kinds(LOUD, TOLD), NIL, NIL);
        mates(kinds(LOUD), NIL);
        // 0 is with 1 or with 2, 3 with 1 alone: the most pairs are more than the first mate
        RefusedTwice x = kinds(ONE, ONE, ONE, ONE);
        reads(x, "deaf 1 p=3&!q=1;deaf 1 p=2&!q=0");
        mates(x, 2, 3, 0, 1);
        // nobody being 9: 0 with 5 comes ahead of 0 with nobody
        RefusedTwice y = kinds(ONE, ONE, ONE, ONE, ONE, ONE);
        reads(y, "deaf 1 p=0&q<5;deaf 1 p=2&!q=5;deaf 1 p=3&!q=4;deaf 1 p=1");
        mates(y, 5, NIL, NIL, 4, 3, 0);
    }

    @Holds(promise = 12, says = "nobody in two of them,")
    void whoHasAMateHasNoOther() {
        // AWAIT is for 0 and 1, 0 and 2, 2 and 3, 3 and 4: 0 is with 1, and can't be with 2 so that 3 is with 4
        RefusedTwice x = kinds(ONE, ONE, ONE, ONE, ONE);
        reads(x, "deaf 1 p=0&q>2|p=1&q>0|p=2&q=4");
        mates(x, 1, 0, 3, 2, NIL);
        // the same of 1 to 5
        RefusedTwice y = kinds(TOLD, ONE, ONE, ONE, ONE, ONE);
        reads(y, "deaf 1 p=1&q>3|p=2&q>1|p=3&q=5");
        mates(y, NIL, 2, 1, 4, 3, NIL);
    }

    /** With whom each is, of the MATCH in 30 days. */
    private void mates(RefusedTwice x, int... want) {
        int pairs = 0;
        for (int p = 0; p < want.length; p++) {
            due("match(30, " + (10 + p) + ")", x.match(30, 10 + p), want[p]);
            pairs += want[p] > p ? 1 : 0;
        }
        due("match(30, 0)", x.match(30, 0), pairs);
    }

    @Holds(promise = 12, says = "MATCH: what 0 how many, 10 and p with whom PERSON p is (-5).")
    void firstAndLastPerson() {
        RefusedTwice x = sixLoud();
        due("match(1, 0)", x.match(1, 0), 3);
        due("match(1, 10)", x.match(1, 10), 1);
        due("match(1, 15)", x.match(1, 15), 4);
        due("match(0, 15)", x.match(0, 15), NIL);
    }

    @Holds(promise = 12, says = "NONE: what;")
    void noSuchWhat() {
        RefusedTwice two = kinds(LOUD, LOUD);
        for (int what : new int[] {-1, 1, 9, 12, 15, 16, -10, LEAST, LEAST + 10, LEAST + 11, MOST}) {
            due("match(1, " + what + ")", two.match(1, what), NONE);
        }
        due("match(1, 11)", two.match(1, 11), 0);
        due("match(1, 16) of six", sixLoud().match(1, 16), NONE);
        due("match(1, 10) of nobody", new RefusedTwice().match(1, 10), NONE);
    }

    @Holds(promise = 12, says = "BAD: n.")
    void soManyDaysAreNotAsTold() {
        RefusedTwice x = kinds(LOUD, LOUD);
        for (int n : new int[] {-1, 31, LEAST, MOST}) {
            due("match(" + n + ", 0)", x.match(n, 0), BAD);
            due("match(" + n + ", 10)", x.match(n, 10), BAD);
        }
    }
}
