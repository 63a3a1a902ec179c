/** The edges of promises 1 to 4 and 7: who there is, what is between them at first, and the rows of TOLD ones. */
final class PeopleEdges extends Edges {
    private static final int[] NO_PERSON_OF_TWO = {-1, 2, 5, 6, LEAST, MOST};

    // ---- promise 1

    @Holds(promise = 1, says = "Nobody, no STREET.")
    void nobodyAndNoStreet() {
        RefusedTwice x = new RefusedTwice();
        for (int what = 0; what <= 6; what++) {
            due("count(" + what + ")", x.count(what), 0);
        }
        due("of(0, 0)", x.of(0, 0), NONE);
        due("told(1)", x.told(1), 0);
        due("told(2)", x.told(2), 0);
        due("told(3)", x.told(3), 0);
    }

    @Holds(promise = 1, says = "DAY: 0 at first.")
    void dayIsZeroAtFirst() {
        due("told(0)", new RefusedTwice().told(0), 0);
    }

    @Holds(promise = 1, says = "Answers: NONE (-1) no such number; BAD (-2) a number is not as told; STATE (-3) as told; "
            + "FULL (-4);")
    void theConstants() {
        due("NONE", RefusedTwice.NONE, -1);
        due("BAD", RefusedTwice.BAD, -2);
        due("STATE", RefusedTwice.STATE, -3);
        due("FULL", RefusedTwice.FULL, -4);
        due("NO", RefusedTwice.NO, Long.MIN_VALUE);
    }

    @Holds(promise = 1, says = "Nobody")
    void twoObjectsShareNothing() {
        RefusedTwice x = sixLoud();
        x.feed(98);
        x.tape(0, 0, 1);
        x.pass(3);
        RefusedTwice other = new RefusedTwice();
        due("count(0) of the other", other.count(0), 0);
        due("count(5) of the other", other.count(5), 0);
        due("told(0) of the other", other.told(0), 0);
        due("read(0, 0) of the other", other.read(0, 0), NO);
    }

    // ---- promise 2

    @Holds(promise = 2, says = "PEOPLE 0 .. 5, as they come,")
    void numbersAsTheyCome() {
        RefusedTwice x = new RefusedTwice();
        for (int i = 0; i < 6; i++) {
            due("of the next one", x.of(i, 0), NONE);
            due("one(" + (6 - i) + ", " + i + ")", x.one(6 - i, i), i);
            due("its KIND", x.of(i, 0), 6 - i);
            due("its v", x.of(i, 1), i);
        }
        due("of(6, 0)", x.of(6, 0), NONE);
    }

    @Holds(promise = 2, says = "One more: its number.")
    void oneMore() {
        RefusedTwice x = new RefusedTwice();
        due("one(0, 0)", x.one(0, 0), 0);
        due("count(0)", x.count(0), 1);
        due("one(0, 0)", x.one(0, 0), 1);
        due("count(0)", x.count(0), 2);
    }

    @Holds(promise = 2, says = "NONE: kind;")
    void noSuchKind() {
        for (int kind : new int[] {-1, 7, 8, LEAST, MOST}) {
            RefusedTwice x = new RefusedTwice();
            due("one(" + kind + ", 0)", x.one(kind, 0), NONE);
            due("count(0)", x.count(0), 0);
        }
        due("one(0, 0)", new RefusedTwice().one(0, 0), 0);
        due("one(6, 0)", new RefusedTwice().one(6, 0), 0);
    }

    @Holds(promise = 2, says = "with a number v (0 .. 9),")
    void leastAndGreatestV() {
        for (int v = 0; v <= 9; v++) {
            RefusedTwice x = new RefusedTwice();
            due("one(3, " + v + ")", x.one(3, v), 0);
            due("its v", x.of(0, 1), v);
        }
    }

    @Holds(promise = 2, says = "BAD: v;")
    void vIsNotAsTold() {
        for (int v : new int[] {-1, 10, 11, LEAST, MOST}) {
            RefusedTwice x = new RefusedTwice();
            due("one(0, " + v + ")", x.one(0, v), BAD);
            due("count(0)", x.count(0), 0);
        }
    }

    @Holds(promise = 2, says = "FULL: 6.")
    void sixAreAll() {
        for (int kind = 0; kind <= 6; kind++) {
            RefusedTwice x = kinds(0, 1, 2, 3, 4);
            due("the sixth", x.one(kind, 9), 5);
            due("the seventh", x.one(kind, 9), FULL);
            due("count(0)", x.count(0), 6);
            due("of(6, 0)", x.of(6, 0), NONE);
        }
    }

    // ---- promise 3

    @Holds(promise = 3, says = "Of one what 0 KIND,")
    void kindOfEach() {
        for (int kind = 0; kind <= 6; kind++) {
            due("of(1, 0)", kinds(0, kind).of(1, 0), kind);
        }
    }

    @Holds(promise = 3, says = "1 v,")
    void vOfEach() {
        RefusedTwice x = Check.people(0, 9, 6, 0);
        due("of(0, 1)", x.of(0, 1), 9);
        due("of(1, 1)", x.of(1, 1), 0);
    }

    @Holds(promise = 3, says = "WED to another one, or to nobody (at first).")
    void wedToNobodyAtFirst() {
        RefusedTwice x = sixLoud();
        for (int i = 0; i < 6; i++) {
            due("of(" + i + ", 2)", x.of(i, 2), NIL);
        }
    }

    @Holds(promise = 3, says = "2 to whom it is WED (-5: nobody),")
    void toWhomItIsWed() {
        RefusedTwice x = comesTo(sixLoud(), row(5, 0, 2), row(0, 5, 2));
        due("of(0, 2)", x.of(0, 2), 5);
        due("of(5, 2)", x.of(5, 2), 0);
        due("of(1, 2)", x.of(1, 2), NIL);
        x.refuse(0, 5, 0);
        due("of(0, 2), undone", x.of(0, 2), NIL);
        due("of(5, 2), undone", x.of(5, 2), NIL);
    }

    @Holds(promise = 3, says = "3 its TALLIES to all others, together,")
    void talliesToAllOthers() {
        RefusedTwice x = comesTo(sixLoud(), row(0, 1, 2), row(0, 2, 2), row(0, 3, 2), row(0, 4, 2), row(0, 5, 2));
        due("of(0, 3), most", x.of(0, 3), 10);
        due("of(5, 3)", x.of(5, 3), 0);
        due("of(5, 4)", x.of(5, 4), 2);
        due("alone", kinds(ONE).of(0, 3), 0);
    }

    @Holds(promise = 3, says = "4 those of all others to it.")
    void talliesOfAllOthers() {
        RefusedTwice x = comesTo(sixLoud(), row(1, 0, 2), row(2, 0, 2), row(3, 0, 2), row(4, 0, 2), row(5, 0, 2));
        due("of(0, 4), most", x.of(0, 4), 10);
        due("of(5, 4)", x.of(5, 4), 0);
        due("of(5, 3)", x.of(5, 3), 2);
        due("alone", kinds(ONE).of(0, 4), 0);
    }

    @Holds(promise = 3, says = "NONE.")
    void noSuchOneOrWhat() {
        RefusedTwice x = kinds(ONE, ONE);
        for (int person : NO_PERSON_OF_TWO) {
            due("of(" + person + ", 0)", x.of(person, 0), NONE);
        }
        for (int what : new int[] {-1, 5, LEAST, MOST}) {
            due("of(1, " + what + ")", x.of(1, what), NONE);
        }
    }

    // ---- promise 4, as far as it is not of days to come

    @Holds(promise = 4, says = "Of one to another one: TALLY (0 .. 2; 0 at first),")
    void tallyFromZeroToTwo() {
        RefusedTwice x = kinds(LOUD, LOUD);
        due("at first", x.between(0, 1, 0), 0);
        for (int tally : new int[] {1, 2, 0, 1}) {
            x.refuse(0, 1, 0);
            due("one more NO", x.between(0, 1, 0), tally);
            due("the other way", x.between(1, 0, 0), 0);
            x.pass(1);
        }
    }

    @Holds(promise = 4, says = "Of one to another what 0 TALLY,")
    void tallyOfOneToAnother() {
        RefusedTwice x = comesTo(sixLoud(), row(0, 1, 2), row(1, 0, 1), row(4, 5, 1));
        due("between(0, 1, 0)", x.between(0, 1, 0), 2);
        due("between(1, 0, 0)", x.between(1, 0, 0), 1);
        due("between(4, 5, 0)", x.between(4, 5, 0), 1);
        due("between(5, 4, 0)", x.between(5, 4, 0), 0);
    }

    @Holds(promise = 4, says = "USED (WORDS 0 .. 3, as bits; none at first),")
    void usedAsBits() {
        for (int word = 0; word <= 3; word++) {
            RefusedTwice x = kinds(ONE, ONE);
            due("at first", x.between(0, 1, 1), 0);
            x.refuse(0, 1, word);
            due("word " + word, x.between(0, 1, 1), 1 << word);
            due("the other way", x.between(1, 0, 1), 0);
        }
    }

    @Holds(promise = 4, says = "1 USED (bits),")
    void usedTwo() {
        RefusedTwice x = kinds(ONE, ONE);
        x.refuse(0, 1, 3);
        x.pass(1);
        x.refuse(0, 1, 0);
        due("words 3 and 0", x.between(0, 1, 1), 9);
    }

    @Holds(promise = 4, says = "LAST (the DAY of the last NO that COUNTED; none at first).")
    void lastOfWhatCounted() {
        RefusedTwice x = kinds(MUTE, ONE);
        due("at first", x.between(0, 1, 2), NIL);
        x.refuse(0, 1, 2);
        due("what did not count", x.between(0, 1, 2), NIL);
        x.refuse(0, 1, 3);
        due("day 0", x.between(0, 1, 2), 0);
        x.pass(1);
        x.refuse(0, 1, 1);
        due("what did not count on day 1", x.between(0, 1, 2), 0);
        x.refuse(0, 1, 3);
        due("day 1", x.between(0, 1, 2), 1);
    }

    @Holds(promise = 4, says = "2 LAST (-5: none),")
    void lastOnTheLastDay() {
        RefusedTwice x = goes(kinds(ONE, ONE), 9999);
        due("none", x.between(0, 1, 2), NIL);
        x.refuse(0, 1, 0);
        due("day 9999", x.between(0, 1, 2), 9999);
        due("the other way", x.between(1, 0, 2), NIL);
    }

    @Holds(promise = 4, says = "NONE;")
    void noSuchTwoOrWhat() {
        RefusedTwice x = kinds(ONE, ONE);
        for (int person : NO_PERSON_OF_TWO) {
            for (int what = 0; what <= 5; what++) {
                due("between(" + person + ", 0, " + what + ")", x.between(person, 0, what), NONE);
                due("between(0, " + person + ", " + what + ")", x.between(0, person, what), NONE);
            }
        }
        for (int what : new int[] {-1, 6, LEAST, MOST}) {
            due("between(0, 1, " + what + ")", x.between(0, 1, what), NONE);
        }
    }

    @Holds(promise = 4, says = "BAD: one is both.")
    void oneIsBoth() {
        RefusedTwice x = kinds(ONE, ONE);
        for (int what = 0; what <= 5; what++) {
            due("between(0, 0, " + what + ")", x.between(0, 0, what), BAD);
            due("between(1, 1, " + what + ")", x.between(1, 1, what), BAD);
        }
    }

    // ---- promise 7

    @Holds(promise = 7, says = "(four numbers 0 .. 9; 0 at first)")
    void rowIsZeroAtFirst() {
        RefusedTwice x = kinds(TOLD, TOLD);
        for (int part = 0; part <= 3; part++) {
            due("row(1, " + part + ", 9)", x.row(1, part, 9), 0);
            due("row(1, " + part + ", 0)", x.row(1, part, 0), 9);
            due("row(1, " + part + ", 0)", x.row(1, part, 0), 0);
            due("the other one's", x.row(0, part, 0), 0);
        }
    }

    @Holds(promise = 7, says = "The ROW of a TOLD one becomes n (0 .. 9)")
    void rowBecomesEachNumber() {
        RefusedTwice x = kinds(ONE, TOLD);
        int before = 0;
        for (int n = 0; n <= 9; n++) {
            due("row(1, 3, " + n + ")", x.row(1, 3, n), before);
            before = n;
        }
        due("row(1, 3, 0)", x.row(1, 3, 0), 9);
    }

    @Holds(promise = 7, says = "for DAYS modulo 4 being part:")
    void rowIsForItsDays() {
        for (int part = 0; part <= 3; part++) {
            RefusedTwice x = kinds(TOLD, ONE);
            x.row(0, part, 1);
            for (int day = 0; day < 9; day++) {
                due("part " + part + " on day " + day, x.counts(0, 1, 3), day % 4 == part ? 1 : 0);
                x.pass(1);
            }
        }
    }

    @Holds(promise = 7, says = "what it was.")
    void rowAnswersWhatItWas() {
        RefusedTwice x = kinds(TOLD);
        due("row(0, 0, 5)", x.row(0, 0, 5), 0);
        due("row(0, 1, 6)", x.row(0, 1, 6), 0);
        due("row(0, 0, 7)", x.row(0, 0, 7), 5);
        due("row(0, 1, 8)", x.row(0, 1, 8), 6);
    }

    @Holds(promise = 7, says = "NONE: person, part;")
    void noSuchOneOrPart() {
        RefusedTwice x = kinds(TOLD, TOLD);
        for (int person : NO_PERSON_OF_TWO) {
            due("row(" + person + ", 0, 1)", x.row(person, 0, 1), NONE);
        }
        for (int part : new int[] {-1, 4, LEAST, MOST}) {
            due("row(1, " + part + ", 1)", x.row(1, part, 1), NONE);
        }
        due("row(1, 3, 0) behind these", x.row(1, 3, 0), 0);
    }

    @Holds(promise = 7, says = "BAD;")
    void rowIsNotAsTold() {
        RefusedTwice x = kinds(TOLD);
        x.row(0, 0, 4);
        for (int n : new int[] {-1, 10, LEAST, MOST}) {
            due("row(0, 0, " + n + ")", x.row(0, 0, n), BAD);
        }
        due("row(0, 0, 0) behind these", x.row(0, 0, 0), 4);
    }

    @Holds(promise = 7, says = "STATE: another KIND.")
    void noOtherKindHasARow() {
        RefusedTwice x = kinds(0, 1, 2, 3, 4, 5);
        for (int person = 0; person <= 5; person++) {
            due("row of KIND " + person, x.row(person, 0, 1), STATE);
        }
    }
}
