/** The edges of promises 18 to 21: the PLAN and its ENDS, the BOOK and what it is LOOKED at for. */
final class PlanEdges extends Edges {
    // ---- promise 18

    @Holds(promise = 18, says = "A row comes to the PLAN: how many there are")
    void rowsCome() {
        RefusedTwice x = kinds(LOUD, LOUD);
        for (int rows = 1; rows <= 10; rows++) {
            due("a row", x.plan(rows % 2, 10), rows);
            due("count(3)", x.count(3), rows);
        }
        due("nothing goes by that", x.told(0) + x.told(3), 0);
    }

    @Holds(promise = 18, says = "(what -1: it is empty then, 0, whatever the other is).")
    void emptyThen() {
        RefusedTwice x = kinds(LOUD, LOUD);
        due("none ahead", x.plan(-1, 0), 0);
        for (int n : new int[] {0, 10, -1, 9999, LEAST, MOST}) {
            x.plan(1, 10);
            due("plan(-1, " + n + ")", x.plan(-1, n), 0);
            due("count(3)", x.count(3), 0);
        }
        due("ends(1)", x.ends(1), 0);
        for (int i = 0; i < 10; i++) {
            x.plan(0, 0);
        }
        due("of ten", x.plan(-1, 0), 0);
        due("the first again", x.plan(0, 0), 1);
        due("without people", new RefusedTwice().plan(-1, 0), 0);
    }

    @Holds(promise = 18, says = "NONE: what (0, 1),")
    void noSuchWhat() {
        RefusedTwice x = kinds(LOUD, LOUD);
        for (int what : new int[] {-2, 2, LEAST, MOST}) {
            due("plan(" + what + ", 10)", x.plan(what, 10), NONE);
        }
        due("count(3)", x.count(3), 0);
    }

    @Holds(promise = 18, says = "people, word (by 1;")
    void noSuchPeopleOrWord() {
        RefusedTwice x = kinds(LOUD, LOUD);
        int[] none = {20, 120, 200, 210, 220, 14, 19, 104, 109, 1010, 1000, -1, -9, -10, -11, -90, -100, -110, -113,
            -1000, 100010, LEAST, LEAST + 10, MOST, MOST - 7};
        for (int n : none) {
            due("plan(1, " + n + ")", x.plan(1, n), NONE);
        }
        due("nobody", new RefusedTwice().plan(1, 10), NONE);
        due("count(3)", x.count(3), 0);
        for (int n : new int[] {10, 13, 100, 103}) {
            due("plan(1, " + n + ")", x.plan(1, n) > 0 ? 1 : 0, 1);
        }
        RefusedTwice six = sixLoud();
        due("plan(1, 543) of six", six.plan(1, 543), 1);
        due("plan(1, 453) of six", six.plan(1, 453), 2);
        due("plan(1, 563) of six", six.plan(1, 563), NONE);
        due("plan(1, 653) of six", six.plan(1, 653), NONE);
        due("plan(1, 544) of six", six.plan(1, 544), NONE);
    }

    @Holds(promise = 18, says = "by 0 n does not matter);")
    void ofADayNDoesNotMatter() {
        RefusedTwice x = new RefusedTwice();
        int rows = 0;
        for (int n : new int[] {0, 14, 99999, -1, LEAST, MOST}) {
            rows++;
            due("plan(0, " + n + ")", x.plan(0, n), rows);
        }
        RefusedTwice kind = kinds(KIND, LOUD);
        kind.plan(0, LEAST);
        kind.plan(0, MOST);
        kind.plan(1, 10);
        due("two DAYS, then a NO", kind.ends(1), 1);
        kind.pass(1);
        due("that is on day 3 now", kind.ends(1), 0);
    }

    @Holds(promise = 18, says = "BAD: one is both (by 1);")
    void nobodyRefusesOneself() {
        RefusedTwice x = kinds(LOUD, LOUD);
        for (int n : new int[] {0, 3, 110, 113}) {
            due("plan(1, " + n + ")", x.plan(1, n), BAD);
            due("count(3)", x.count(3), 0);
        }
        due("plan(0, 110)", x.plan(0, 110), 1);
    }

    @Holds(promise = 18, says = "FULL: 10.")
    void tenAreAll() {
        RefusedTwice x = kinds(LOUD, LOUD);
        for (int i = 0; i < 10; i++) {
            x.plan(0, 0);
        }
        due("an eleventh day", x.plan(0, 0), FULL);
        due("an eleventh NO", x.plan(1, 10), FULL);
        due("count(3)", x.count(3), 10);
        due("ends(1)", x.ends(1), 0);
    }

    @Holds(promise = 18, says = "A PLAN told by hand: what goes (0 a DAY, 1 a NO, told as 100 times who says it, 10 times to whom, and the WORD; 10 rows at most):")
    void whoToWhomAndWhichWord() {
        RefusedTwice x = kinds(ONE, MUTE, TOLD);
        x.plan(1, 102);
        due("1 to 0 by 2", x.ends(1), 0);
        x.plan(1, 103);
        due("1 to 0 by 3", x.ends(1), 1);
        x.plan(1, 210);
        due("2 to 1 by 0", x.ends(1), 1);
        x.plan(1, 12);
        due("0 to 1 by 2", x.ends(1), 2);
        x.plan(0, 0);
        x.plan(1, 12);
        due("0 to 1 by 2 anew", x.ends(1), 2);
        x.plan(1, 11);
        due("0 to 1 by 1", x.ends(1), 3);
        x.plan(0, 0);
        x.plan(1, 103);
        due("1 to 0 by 3 anew", x.ends(1), 4);
        due("the tenth row", x.plan(1, 20), 10);
        due("0 to 2 by 0", x.ends(1), 5);
    }

    // ---- promise 19

    @Holds(promise = 19, says = "ENDS: how many are WED; TALLIES of all, together.")
    void afterNoRowAndAfterTen() {
        RefusedTwice x = comesTo(sixLoud(), row(0, 1, 2), row(1, 0, 1), row(2, 3, 2), row(3, 2, 2));
        due("no rows, WED", x.ends(0), 2);
        due("no rows, TALLIES", x.ends(1), 7);
        x.plan(1, 100);
        due("one row, WED", x.ends(0), 4);
        due("one row, TALLIES", x.ends(1), 8);
        x.plan(1, 230);
        due("two rows, WED", x.ends(0), 2);
        due("two rows, TALLIES", x.ends(1), 4);
        for (int i = 0; i < 7; i++) {
            x.plan(0, 0);
        }
        x.plan(1, 10);
        due("ten rows, WED", x.ends(0), 0);
        due("ten rows, TALLIES", x.ends(1), 0);
        due("nobody, WED", new RefusedTwice().ends(0), 0);
        due("nobody, TALLIES", new RefusedTwice().ends(1), 0);
    }

    @Holds(promise = 19, says = "All that follows is asked, goes on from how all is (DAYS beyond 9999, too), and changes nothing.")
    void daysBeyond9999() {
        RefusedTwice x = goes(kinds(KIND, LOUD), 9999);
        x.plan(1, 10);
        due("day 9999", x.ends(1), 0);
        x.plan(0, 0);
        x.plan(1, 11);
        due("day 10000", x.ends(1), 1);
        x.plan(0, 0);
        x.plan(0, 0);
        x.plan(1, 12);
        due("day 10002", x.ends(1), 2);
        due("asked again", x.ends(1), 2);
        due("told(0)", x.told(0), 9999);
        due("told(3)", x.told(3), 0);
    }

    @Holds(promise = 19, says = "ENDS: what 0 how many are WED, 1 TALLIES.")
    void endsOfAWedding() {
        RefusedTwice x = comesTo(kinds(LOUD, LOUD), row(0, 1, 2), row(1, 0, 1));
        x.plan(1, 101);
        due("ends(0)", x.ends(0), 2);
        due("ends(1)", x.ends(1), 4);
        due("nobody is WED by that", x.told(2), 0);
    }

    @Holds(promise = 19, says = "ENDS: how many are WED; TALLIES of all, together.")
    void ofEachToEachOther() {
        for (int one = 0; one < 6; one++) {
            for (int other = 0; other < 6; other++) {
                if (one != other) {
                    RefusedTwice x = comesTo(sixLoud(), row(one, other, 1), row(other, one, 2));
                    String two = one + " to " + other + ": ";
                    due(two + "plan", x.plan(1, 100 * one + 10 * other + 3), 1);
                    due(two + "WED", x.ends(0), 2);
                    due(two + "TALLIES", x.ends(1), 4);
                }
            }
        }
    }

    @Holds(promise = 19, says = "NONE.")
    void noSuchEnd() {
        for (int what : new int[] {-1, 2, LEAST, MOST}) {
            due("ends(" + what + ")", kinds(LOUD, LOUD).ends(what), NONE);
        }
    }

    // ---- promise 20

    @Holds(promise = 20, says = "A BOOK told by hand: two, TALLY (0 .. 2; 8 at most):")
    void eachTally() {
        for (int tally = 0; tally <= 2; tally++) {
            RefusedTwice x = comesTo(kinds(LOUD, LOUD), row(0, 1, tally));
            for (int told = 0; told <= 2; told++) {
                due("book(0, 1, " + told + ")", x.book(0, 1, told), 1);
                due("looked() of " + tally, x.looked(), told == tally ? NIL : 0);
                x.book(-1, 0, 0);
            }
        }
    }

    @Holds(promise = 20, says = "A row comes to the BOOK: how many there are")
    void rowsComeToTheBook() {
        RefusedTwice x = kinds(LOUD, LOUD);
        for (int rows = 1; rows <= 8; rows++) {
            due("book(0, 1, 0)", x.book(0, 1, 0), rows);
            due("count(4)", x.count(4), rows);
        }
    }

    @Holds(promise = 20, says = "(one -1: it is empty then, 0, whatever the others are).")
    void emptyBookThen() {
        RefusedTwice x = kinds(LOUD, LOUD);
        due("none ahead", x.book(-1, 0, 0), 0);
        x.book(0, 1, 2);
        due("looked()", x.looked(), 0);
        due("whatever the others", x.book(-1, LEAST, MOST), 0);
        due("count(4)", x.count(4), 0);
        due("looked()", x.looked(), NIL);
        for (int i = 0; i < 8; i++) {
            x.book(0, 1, 0);
        }
        due("of eight", x.book(-1, -1, 3), 0);
        due("the first again", x.book(1, 0, 0), 1);
        due("without people", new RefusedTwice().book(-1, 0, 0), 0);
    }

    @Holds(promise = 20, says = "NONE: people;")
    void noSuchPeople() {
        RefusedTwice x = kinds(LOUD, LOUD);
        for (int bad : new int[] {-2, 2, 6, LEAST, MOST}) {
            due("book(" + bad + ", 0, 0)", x.book(bad, 0, 0), NONE);
            due("book(0, " + bad + ", 0)", x.book(0, bad, 0), NONE);
        }
        due("book(0, -1, 0)", x.book(0, -1, 0), NONE);
        due("count(4)", x.count(4), 0);
    }

    @Holds(promise = 20, says = "BAD: one is both, tally;")
    void oneIsBothOrNoTally() {
        RefusedTwice x = kinds(LOUD, LOUD);
        due("book(0, 0, 0)", x.book(0, 0, 0), BAD);
        due("book(1, 1, 2)", x.book(1, 1, 2), BAD);
        for (int tally : new int[] {-1, 3, LEAST, MOST}) {
            due("book(0, 1, " + tally + ")", x.book(0, 1, tally), BAD);
        }
        due("count(4)", x.count(4), 0);
    }

    @Holds(promise = 20, says = "FULL: 8.")
    void eightAreAll() {
        RefusedTwice x = kinds(LOUD, LOUD);
        for (int i = 0; i < 8; i++) {
            x.book(0, 1, 0);
        }
        due("a ninth", x.book(0, 1, 2), FULL);
        due("count(4)", x.count(4), 8);
        due("looked()", x.looked(), NIL);
    }

    // ---- promise 21

    @Holds(promise = 21, says = "LOOKED at: the number of the first of these rows by which it is otherwise now (-5: none).")
    void firstRowOtherwise() {
        for (int first = 0; first < 8; first++) {
            RefusedTwice x = kinds(LOUD, LOUD);
            for (int i = 0; i < 8; i++) {
                x.book(0, 1, i < first ? 0 : 1);
            }
            due("rows from " + first + " on are otherwise", x.looked(), first);
            x.refuse(0, 1, 0);
            due("it is otherwise now", x.looked(), first == 0 ? NIL : 0);
        }
        RefusedTwice last = kinds(LOUD, LOUD);
        for (int i = 0; i < 8; i++) {
            last.book(i % 2, 1 - i % 2, i / 7);
        }
        due("the last alone", last.looked(), 7);
        last.refuse(1, 0, 0);
        due("the other way", last.looked(), 1);
    }

    @Holds(promise = 21, says = "LOOKED at; -5.")
    void anEmptyBook() {
        due("nobody", new RefusedTwice().looked(), NIL);
        due("no rows", kinds(LOUD, LOUD).looked(), NIL);
    }
}
