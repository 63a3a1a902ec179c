/** The edges of promises 13 to 17: SAID, FALSE, CAN, ODDS, MEAN. */
final class SaidEdges extends Edges {
    // ---- promise 13

    @Holds(promise = 13, says = "What was SAID comes: how many rows there are")
    void rowsCome() {
        RefusedTwice x = kinds(LOUD, LOUD);
        for (int rows = 1; rows <= 5; rows++) {
            due("say(0, 1, 0, 0, true)", x.say(0, 1, 0, 0, true), rows);
            due("count(2)", x.count(2), rows);
        }
        due("nothing COUNTED by that", x.told(3), 0);
    }

    @Holds(promise = 13, says = "(one -1: none then, 0, whatever the others are).")
    void noneThen() {
        RefusedTwice x = kinds(LOUD, LOUD);
        due("none ahead", x.say(-1, 0, 0, 0, true), 0);
        x.say(0, 1, 0, 0, false);
        due("wrong()", x.wrong(), 0);
        due("whatever the others", x.say(-1, LEAST, MOST, -1, false), 0);
        due("count(2)", x.count(2), 0);
        due("wrong()", x.wrong(), NIL);
        due("without people", new RefusedTwice().say(-1, -1, -1, -1, true), 0);
        for (int i = 0; i < 5; i++) {
            x.say(0, 1, 0, 0, true);
        }
        due("of five", x.say(-1, -1, 4, 21, true), 0);
        due("the first again", x.say(0, 1, 0, 0, true), 1);
    }

    @Holds(promise = 13, says = "NONE: people, word;")
    void noSuchPeopleOrWord() {
        RefusedTwice x = kinds(LOUD, LOUD);
        for (int bad : new int[] {-2, 2, 6, LEAST, MOST}) {
            due("say(" + bad + ", 0, 0, 0, true)", x.say(bad, 0, 0, 0, true), NONE);
            due("say(0, " + bad + ", 0, 0, true)", x.say(0, bad, 0, 0, true), NONE);
        }
        due("say(0, -1, 0, 0, true)", x.say(0, -1, 0, 0, true), NONE);
        for (int word : new int[] {-1, 4, LEAST, MOST}) {
            due("say(0, 1, " + word + ", 0, true)", x.say(0, 1, word, 0, true), NONE);
        }
        due("count(2)", x.count(2), 0);
        due("say(1, 0, 3, 0, true)", x.say(1, 0, 3, 0, true), 1);
    }

    @Holds(promise = 13, says = "BAD: one is both, n;")
    void oneIsBothOrSoManyDays() {
        RefusedTwice x = kinds(LOUD, LOUD);
        due("say(0, 0, 0, 0, true)", x.say(0, 0, 0, 0, true), BAD);
        due("say(1, 1, 3, 20, true)", x.say(1, 1, 3, 20, true), BAD);
        for (int n : new int[] {-1, 21, LEAST, MOST}) {
            due("say(0, 1, 0, " + n + ", true)", x.say(0, 1, 0, n, true), BAD);
        }
        due("count(2)", x.count(2), 0);
    }

    @Holds(promise = 13, says = "FULL: 5.")
    void fiveAreAll() {
        RefusedTwice x = kinds(LOUD, LOUD);
        for (int i = 0; i < 5; i++) {
            x.say(0, 1, 0, 0, true);
        }
        due("a sixth", x.say(0, 1, 0, 0, false), FULL);
        due("count(2)", x.count(2), 5);
        due("the five are as they were", x.wrong(), NIL);
    }

    @Holds(promise = 13, says = "SAID told by hand: two, a WORD, DAYS n (0 .. 20) from now, whether it COUNTED")
    void todayOrInTwentyDays() {
        RefusedTwice x = kinds(MUTE, LOUD);
        reads(x, "begin 20");
        due("in 20 days", x.say(0, 1, 3, 20, true), 1);
        due("in 19 days", x.say(0, 1, 3, 19, false), 2);
        due("today", x.say(0, 1, 3, 0, false), 3);
        due("another word", x.say(0, 1, 2, 20, false), 4);
        due("all are so", x.wrong(), NIL);
        due("in 19 days", x.say(1, 0, 0, 19, true), 5);
        due("that is not so", x.wrong(), 4);
    }

    @Holds(promise = 13, says = "(5 rows at most; TALLY, USED and LAST are as now in each).")
    void eachRowGoesFromNow() {
        RefusedTwice x = kinds(ONE, LOUD);
        x.say(0, 1, 0, 1, true);
        x.say(0, 1, 0, 2, true);
        x.say(0, 1, 0, 0, true);
        x.say(0, 1, 1, 0, true);
        due("no row uses up a word or a day", x.wrong(), NIL);
        x.refuse(0, 1, 0);
        due("USED as now", x.wrong(), 0);
        x.say(-1, 0, 0, 0, true);
        x.say(0, 1, 1, 1, true);
        x.say(0, 1, 1, 0, false);
        due("LAST as now", x.wrong(), NIL);
        x.pass(1);
        due("LAST was yesterday", x.wrong(), 1);
    }

    // ---- promise 14

    @Holds(promise = 14, says = "FALSE; -5.")
    void falseOrNot() {
        RefusedTwice x = kinds(LOUD, LOUD);
        due("nothing SAID", x.wrong(), NIL);
        due("nobody", new RefusedTwice().wrong(), NIL);
        x.say(0, 1, 0, 0, true);
        due("it is so", x.wrong(), NIL);
        x.say(0, 1, 0, 0, false);
        due("it is not so", x.wrong(), 1);
    }

    @Holds(promise = 14, says = "FALSE: the first row of SAID that is not so (-5: all are).")
    void firstRowThatIsNotSo() {
        for (int first = 0; first < 5; first++) {
            RefusedTwice x = kinds(LOUD, LOUD);
            for (int i = 0; i < 5; i++) {
                x.say(0, 1, 0, 0, i < first);
            }
            due("rows from " + first + " on are not", x.wrong(), first);
        }
        RefusedTwice x = kinds(LOUD, LOUD);
        for (int i = 0; i < 5; i++) {
            x.say(1, 0, 3, 20, i < 4);
        }
        due("the last alone", x.wrong(), 4);
    }

    @Holds(promise = 14, says = "v the v of who says it,")
    void whoSaysItHasTheV() {
        RefusedTwice x = Check.people(SCORNER, 3, SCORNER, 5);
        reads(x, "deaf 1 v=3");
        x.say(0, 1, 0, 0, false);
        x.say(1, 0, 0, 0, true);
        due("of v 3 and of v 5", x.wrong(), NIL);
        x.say(0, 1, 0, 0, true);
        due("of v 3", x.wrong(), 2);
    }

    @Holds(promise = 14, says = "goes on from how all is (DAYS beyond 9999, too),")
    void saidBeyond9999() {
        RefusedTwice x = goes(kinds(KIND, LOUD), 9999);
        x.say(0, 1, 0, 0, false);
        x.say(0, 1, 0, 1, true);
        x.say(0, 1, 0, 19, true);
        x.say(0, 1, 0, 20, false);
        due("days 9999, 10000, 10018, 10019", x.wrong(), NIL);
    }

    // ---- promise 15

    @Holds(promise = 15, says = "CAN: what 0 how many, 1 the least; -5.")
    void allOrNone() {
        RefusedTwice x = kinds(LOUD, LOUD);
        due("nothing SAID: how many", x.can(0, 0), 10);
        due("nothing SAID: the least", x.can(0, 1), 0);
        x.say(0, 1, 0, 0, false);
        due("none: how many", x.can(0, 0), 0);
        due("none: the least", x.can(0, 1), NIL);
    }

    @Holds(promise = 15, says = "CAN of one: how many numbers v (0 .. 9) there are")
    void fromZeroToNine() {
        for (int v = 0; v <= 9; v++) {
            RefusedTwice x = kinds(SCORNER, LOUD);
            reads(x, "deaf 1 !v=" + v);
            x.say(0, 1, 0, 0, true);
            due("v " + v + " alone: how many", x.can(0, 0), 1);
            due("v " + v + " alone: the least", x.can(0, 1), v);
        }
        RefusedTwice x = kinds(SCORNER, LOUD);
        reads(x, "deaf 1 v<10");
        x.say(0, 1, 0, 0, true);
        due("v 10 is none", x.can(0, 0), 0);
    }

    @Holds(promise = 15, says = "by which, were that its v, all rows of SAID are so that it says; the least (-5: none).")
    void allRowsThatItSays() {
        RefusedTwice x = Check.people(SHY, 9, SHY, 0, LOUD, 0);
        x.say(0, 1, 0, 0, true);
        due("not 0, 4, 8", x.can(0, 0), 7);
        due("the least", x.can(0, 1), 1);
        x.say(0, 2, 1, 0, true);
        due("nor 1, 5, 9", x.can(0, 0), 4);
        due("the least", x.can(0, 1), 2);
        x.say(1, 0, 3, 0, false);
        due("what another says is not for it", x.can(0, 0), 4);
        due("the other: 3 and 7", x.can(1, 0), 2);
        due("the other: the least", x.can(1, 1), 3);
        x.say(2, 0, 0, 0, false);
        due("who is never silent", x.can(2, 0), 0);
        x.say(0, 1, 2, 20, false);
        due("2 and 6", x.can(0, 0), 2);
        due("its own v stays", x.of(0, 1), 9);
    }

    @Holds(promise = 15, says = "NONE.")
    void noSuchOneOrWhat() {
        RefusedTwice x = kinds(LOUD, LOUD);
        for (int person : new int[] {-1, 2, 6, LEAST, MOST}) {
            due("can(" + person + ", 0)", x.can(person, 0), NONE);
        }
        for (int what : new int[] {-1, 2, LEAST, MOST}) {
            due("can(1, " + what + ")", x.can(1, what), NONE);
        }
    }

    // ---- promise 16

    @Holds(promise = 16, says = "ODDS of one to another: if the WORD of a NO today is any, each alike likely: how likely it COUNTS: a fraction in lowest terms.")
    void noneToFourOfFour() {
        int[][] due = {{0, 1}, {1, 4}, {1, 2}, {3, 4}, {1, 1}};
        for (int words = 0; words <= 4; words++) {
            RefusedTwice x = kinds(SCORNER, LOUD);
            reads(x, "deaf 1 !w<" + words);
            due(words + " words, above", x.odds(0, 1, 0), due[words][0]);
            due(words + " words, below", x.odds(0, 1, 1), due[words][1]);
        }
    }

    @Holds(promise = 16, says = "ODDS; part 0 above, 1 below the line.")
    void oddsOfToday() {
        RefusedTwice x = kinds(SHY, LOUD);
        due("above", x.odds(0, 1, 0), 3);
        due("below", x.odds(0, 1, 1), 4);
        x.refuse(0, 1, 1);
        due("on the day of LAST, above", x.odds(0, 1, 0), 0);
        due("on the day of LAST, below", x.odds(0, 1, 1), 1);
        x.pass(2);
        due("two days later, 0 and 1 being none, above", x.odds(0, 1, 0), 1);
        due("two days later, below", x.odds(0, 1, 1), 2);
        x.pass(1);
        due("on an odd day, above", x.odds(0, 1, 0), 0);
    }

    @Holds(promise = 16, says = "v the v of who says it,")
    void oddsByTheVOfWhoSaysIt() {
        RefusedTwice x = Check.people(SCORNER, 3, SCORNER, 5);
        reads(x, "deaf 1 v=3");
        due("of v 3, above", x.odds(0, 1, 0), 0);
        due("of v 5, above", x.odds(1, 0, 0), 1);
    }

    @Holds(promise = 16, says = "NO: people, one is both, part.")
    void noOdds() {
        RefusedTwice x = kinds(LOUD, LOUD);
        for (int bad : new int[] {-1, 2, 6, LEAST, MOST}) {
            due("odds(" + bad + ", 0, 0)", x.odds(bad, 0, 0), NO);
            due("odds(0, " + bad + ", 0)", x.odds(0, bad, 0), NO);
        }
        due("odds(0, 0, 0)", x.odds(0, 0, 0), NO);
        due("odds(1, 1, 1)", x.odds(1, 1, 1), NO);
        for (int part : new int[] {-1, 2, LEAST, MOST}) {
            due("odds(0, 1, " + part + ")", x.odds(0, 1, part), NO);
        }
    }

    // ---- promise 17

    @Holds(promise = 17, says = "MEAN: TALLIES of all to all others, together, by how many PEOPLE they are: a fraction in lowest terms")
    void leastAndGreatestMean() {
        RefusedTwice x = kinds(LOUD);
        mean("one alone", x, 0, 1);
        RefusedTwice six = sixLoud();
        mean("none refused", six, 0, 1);
        for (int i = 0; i < 36; i++) {
            six.refuse(i / 6, i % 6, 0);
        }
        mean("30 by 6", six, 5, 1);
        six.pass(1);
        for (int i = 0; i < 36; i++) {
            six.refuse(i / 6, i % 6, 0);
        }
        mean("60 by 6", six, 10, 1);
        six.pass(1);
        six.refuse(0, 1, 0);
        mean("56 by 6", six, 28, 3);
        RefusedTwice five = kinds(LOUD, LOUD, LOUD, LOUD, LOUD);
        five.refuse(4, 0, 0);
        mean("1 by 5", five, 1, 5);
        RefusedTwice four = kinds(LOUD, LOUD, LOUD, LOUD);
        four.refuse(3, 0, 0);
        four.refuse(0, 3, 0);
        mean("2 by 4", four, 1, 2);
    }

    private void mean(String of, RefusedTwice x, int above, int below) {
        due(of + ", above", x.mean(0), above);
        due(of + ", below", x.mean(1), below);
    }

    @Holds(promise = 17, says = "(NO: there are none).")
    void noMeanOfNobody() {
        RefusedTwice x = new RefusedTwice();
        due("mean(0)", x.mean(0), NO);
        due("mean(1)", x.mean(1), NO);
    }

    @Holds(promise = 17, says = "MEAN; part likewise. NO.")
    void noSuchPart() {
        RefusedTwice x = kinds(LOUD, LOUD, LOUD);
        x.refuse(0, 1, 0);
        due("mean(0)", x.mean(0), 1);
        due("mean(1)", x.mean(1), 3);
        for (int part : new int[] {-1, 2, LEAST, MOST}) {
            due("mean(" + part + ")", x.mean(part), NO);
        }
    }
}
