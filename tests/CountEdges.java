/** The edges of promises 5 and 6: which NO counts, by KIND, WORD and DAY, and what it does. */
final class CountEdges extends Edges {
    private static final int ALL_WORDS = 15;
    private static final String DEAF_TO_ALL = "deaf 1 w<9";

    /** A loud one comes behind someone of a KIND with such a v. */
    private static RefusedTwice kind(int kind, int v) {
        return Check.people(kind, v, LOUD, 0);
    }

    // ---- promise 5

    @Holds(promise = 5, says = "A NO, if said, would COUNT today (1), or not (0).")
    void countsOrNot() {
        RefusedTwice x = kind(MUTE, 0);
        due("counts(0, 1, 3)", x.counts(0, 1, 3), 1);
        due("counts(0, 1, 2)", x.counts(0, 1, 2), 0);
        due("it was not said", x.between(0, 1, 0), 0);
        x.refuse(0, 1, 3);
        due("counts(0, 1, 3), said", x.counts(0, 1, 3), 0);
    }

    @Holds(promise = 5, says = "NONE: people, word;")
    void noSuchPeopleOrWordToCount() {
        RefusedTwice x = kinds(LOUD, LOUD);
        for (int bad : new int[] {-1, 2, 6, LEAST, MOST}) {
            due("counts(" + bad + ", 0, 0)", x.counts(bad, 0, 0), NONE);
            due("counts(0, " + bad + ", 0)", x.counts(0, bad, 0), NONE);
        }
        for (int word : new int[] {-1, 4, LEAST, MOST}) {
            due("counts(0, 1, " + word + ")", x.counts(0, 1, word), NONE);
        }
        due("counts(1, 0, 3)", x.counts(1, 0, 3), 1);
    }

    @Holds(promise = 5, says = "BAD: one is both.")
    void noneCountsToOneself() {
        RefusedTwice x = kinds(LOUD, LOUD);
        due("counts(0, 0, 0)", x.counts(0, 0, 0), BAD);
        due("counts(1, 1, 3)", x.counts(1, 1, 3), BAD);
    }

    @Holds(promise = 5, says = "A NO of one to another, of a WORD, on a DAY COUNTS (never ahead of DAY BEGIN,")
    void neverAheadOfBegin() {
        for (int kind = 0; kind <= 6; kind++) {
            RefusedTwice x = kind(kind, 0);
            x.row(0, 1, 1);
            x.row(0, 2, 1);
            reads(x, "begin 2");
            x.pass(1);
            due("the day ahead of BEGIN, KIND " + kind, counting(x, 0, 1), 0);
            x.pass(1);
            due("on BEGIN, KIND " + kind, counting(x, 0, 1) == 0 ? 0 : 1, 1);
        }
        RefusedTwice late = kinds(LOUD, LOUD);
        reads(late, "begin 99");
        goes(late, 98);
        due("on day 98", late.counts(0, 1, 0), 0);
        late.pass(1);
        due("on day 99", late.counts(0, 1, 0), 1);
    }

    @Holds(promise = 5, says = "or on the DAY of LAST):")
    void neverOnTheDayOfLast() {
        for (int kind = 0; kind <= 6; kind++) {
            RefusedTwice x = kind(kind, 0);
            x.row(0, 0, 1);
            x.row(0, 2, 1);
            due("the first, KIND " + kind, x.refuse(0, 1, 3), 1);
            due("on that day, KIND " + kind, counting(x, 0, 1), 0);
            due("the other way", counting(x, 1, 0), ALL_WORDS);
            x.pass(2);
            due("two days later, KIND " + kind, counting(x, 0, 1) == 0 ? 0 : 1, 1);
        }
        RefusedTwice three = kinds(LOUD, LOUD, LOUD);
        three.refuse(0, 1, 0);
        due("to a third on that day", counting(three, 0, 2), ALL_WORDS);
        due("of a third on that day", counting(three, 2, 1), ALL_WORDS);
    }

    @Holds(promise = 5, says = "ONE: if it is HEARD, and the WORD is not USED.")
    void one() {
        RefusedTwice x = kind(ONE, 0);
        due("at first", counting(x, 0, 1), 15);
        x.refuse(0, 1, 3);
        x.pass(1);
        due("3 is USED", counting(x, 0, 1), 7);
        x.refuse(0, 1, 0);
        x.pass(1);
        due("0 and 3 are USED", counting(x, 0, 1), 6);
        reads(x, "deaf 1 w=1");
        due("1 is not HEARD", counting(x, 0, 1), 4);
        reads(x, DEAF_TO_ALL);
        due("none is HEARD", counting(x, 0, 1), 0);
    }

    @Holds(promise = 5, says = "KIND: as ONE, if DAY is even.")
    void kindOnEvenDays() {
        RefusedTwice x = kind(KIND, 0);
        due("day 0", counting(x, 0, 1), 15);
        x.pass(1);
        due("day 1", counting(x, 0, 1), 0);
        x.pass(1);
        due("day 2", counting(x, 0, 1), 15);
        x.refuse(0, 1, 2);
        x.pass(2);
        due("2 is USED", counting(x, 0, 1), 11);
        reads(x, DEAF_TO_ALL);
        due("none is HEARD", counting(x, 0, 1), 0);
        RefusedTwice late = goes(kind(KIND, 0), 9998);
        due("day 9998", counting(late, 0, 1), 15);
        late.pass(1);
        due("day 9999", counting(late, 0, 1), 0);
    }

    @Holds(promise = 5, says = "SCORNER: if it is HEARD.")
    void scorner() {
        RefusedTwice x = kind(SCORNER, 0);
        x.refuse(0, 1, 2);
        x.pass(1);
        due("USED, on an odd day", counting(x, 0, 1), 15);
        reads(x, "deaf 1 w>1");
        due("2 and 3 are not HEARD", counting(x, 0, 1), 3);
        reads(x, DEAF_TO_ALL);
        due("none is HEARD", counting(x, 0, 1), 0);
    }

    @Holds(promise = 5, says = "MUTE: if it is HEARD, and the WORD is 3.")
    void mute() {
        RefusedTwice x = kind(MUTE, 0);
        due("at first", counting(x, 0, 1), 8);
        x.refuse(0, 1, 3);
        x.pass(1);
        due("USED, on an odd day", counting(x, 0, 1), 8);
        reads(x, "deaf 1 w=3");
        due("3 is not HEARD", counting(x, 0, 1), 0);
    }

    @Holds(promise = 5, says = "SHY: as KIND, if the WORD is not v modulo 4.")
    void shy() {
        for (int v = 0; v <= 9; v++) {
            RefusedTwice x = kind(SHY, v);
            due("v " + v, counting(x, 0, 1), 15 - (1 << v % 4));
            x.pass(1);
            due("v " + v + " on an odd day", counting(x, 0, 1), 0);
        }
        RefusedTwice x = kind(SHY, 9);
        x.refuse(0, 1, 0);
        x.pass(2);
        due("0 is USED, 1 is not for it", counting(x, 0, 1), 12);
        reads(x, "deaf 1 w=2");
        due("2 is not HEARD", counting(x, 0, 1), 8);
    }

    @Holds(promise = 5, says = "LOUD: always.")
    void loud() {
        RefusedTwice x = kind(LOUD, 0);
        reads(x, "deaf 99 w<9");
        due("not HEARD", counting(x, 0, 1), 15);
        x.refuse(0, 1, 1);
        x.pass(1);
        due("USED, on an odd day", counting(x, 0, 1), 15);
        x.refuse(0, 1, 1);
        x.pass(1);
        due("thrice", counting(x, 0, 1), 15);
    }

    @Holds(promise = 5, says = "TOLD: as MUTE, if its ROW (four numbers 0 .. 9; 0 at first) at DAY modulo 4 is not 0.")
    void told() {
        RefusedTwice x = kind(TOLD, 0);
        due("at first", counting(x, 0, 1), 0);
        x.row(0, 0, 1);
        due("1", counting(x, 0, 1), 8);
        x.row(0, 0, 9);
        due("9", counting(x, 0, 1), 8);
        x.refuse(0, 1, 3);
        x.pass(1);
        due("another day", counting(x, 0, 1), 0);
        x.pass(3);
        due("day 4, USED", counting(x, 0, 1), 8);
        reads(x, "deaf 1 w=3");
        due("3 is not HEARD", counting(x, 0, 1), 0);
        RefusedTwice late = goes(kind(TOLD, 0), 9999);
        late.row(0, 3, 1);
        due("day 9999", counting(late, 0, 1), 8);
    }

    // ---- promise 6

    @Holds(promise = 6, says = "A NO is said: TALLY then, if it COUNTS; -5: it does not.")
    void tallyThen() {
        RefusedTwice x = kind(MUTE, 0);
        due("by 2", x.refuse(0, 1, 2), NIL);
        due("by 3", x.refuse(0, 1, 3), 1);
        due("anew", x.refuse(0, 1, 3), NIL);
        x.pass(1);
        due("a second", x.refuse(0, 1, 3), 2);
        x.pass(1);
        due("a third", x.refuse(0, 1, 3), 0);
    }

    @Holds(promise = 6, says = "NONE: people, word;")
    void noSuchPeopleOrWord() {
        RefusedTwice x = kinds(LOUD, LOUD);
        for (int bad : new int[] {-1, 2, 6, LEAST, MOST}) {
            due("refuse(" + bad + ", 0, 0)", x.refuse(bad, 0, 0), NONE);
            due("refuse(0, " + bad + ", 0)", x.refuse(0, bad, 0), NONE);
        }
        for (int word : new int[] {-1, 4, LEAST, MOST}) {
            due("refuse(0, 1, " + word + ")", x.refuse(0, 1, word), NONE);
        }
        due("told(3) behind these", x.told(3), 0);
    }

    @Holds(promise = 6, says = "BAD: one is both.")
    void nobodyRefusesOneself() {
        RefusedTwice x = kinds(LOUD, LOUD);
        due("refuse(0, 0, 0)", x.refuse(0, 0, 0), BAD);
        due("refuse(1, 1, 3)", x.refuse(1, 1, 3), BAD);
        due("told(3) behind these", x.told(3), 0);
    }

    @Holds(promise = 6, says = "If a NO COUNTS, the WORD is USED, LAST is that DAY, and, if TALLY is less than 2, it is 1 more;")
    void whatCountsDoes() {
        RefusedTwice x = kind(ONE, 0);
        x.pass(4);
        x.refuse(0, 1, 3);
        bond("the first", x, 0, 1, 1, 8, 4);
        bond("the first", x, 1, 0, 0, 0, NIL);
        x.pass(3);
        x.refuse(0, 1, 0);
        bond("the second", x, 0, 1, 2, 9, 7);
        bond("the second", x, 1, 0, 0, 0, NIL);
    }

    @Holds(promise = 6, says = "if it is 2, all is UNDONE between these two: TALLY is 0, and no WORD is USED, either way,")
    void theThirdUndoesEitherWay() {
        RefusedTwice x = comesTo(sixLoud(), row(0, 1, 2), row(1, 0, 1), row(0, 2, 1), row(2, 1, 2));
        due("the third", x.refuse(0, 1, 3), 0);
        bond("who said it", x, 0, 1, 0, 0, 2);
        bond("to whom", x, 1, 0, 0, 0, 0);
        bond("to another", x, 0, 2, 1, 1, 0);
        bond("of another", x, 2, 1, 2, 3, 1);
        due("the other's first again", x.refuse(1, 0, 2), 1);
        bond("to whom", x, 1, 0, 1, 4, 2);
    }

    @Holds(promise = 6, says = "and they are WED to nobody, if they were to one another.")
    void undoneAreWedToNobody() {
        for (int who = 0; who < 2; who++) {
            RefusedTwice x = comesTo(kinds(LOUD, LOUD), row(0, 1, 2), row(1, 0, 2));
            due("they are WED", x.told(2), 2);
            due("the third, of " + who, x.refuse(who, 1 - who, 0), 0);
            due("of(0, 2)", x.of(0, 2), NIL);
            due("of(1, 2)", x.of(1, 2), NIL);
            bond("of the other", x, 1 - who, who, 0, 0, 1);
        }
    }

    @Holds(promise = 6, says = "if they were to one another.")
    void whoIsWedToAnotherStaysSo() {
        RefusedTwice x = comesTo(sixLoud(), row(0, 1, 2), row(1, 0, 2), row(2, 0, 2), row(0, 2, 2), row(0, 3, 2));
        due("0 is WED to 1", x.of(0, 2), 1);
        due("a third of 2 to 0", x.refuse(2, 0, 0), 0);
        due("a third of 0 to 3", x.refuse(0, 3, 0), 0);
        due("of(0, 2)", x.of(0, 2), 1);
        due("of(1, 2)", x.of(1, 2), 0);
        due("of(2, 2)", x.of(2, 2), NIL);
        due("told(2)", x.told(2), 2);
    }

    @Holds(promise = 6, says = "Then, if TALLY is 2 either way, and neither is WED, they are WED.")
    void wedAtTwoEitherWay() {
        RefusedTwice x = kinds(LOUD, LOUD);
        x.refuse(0, 1, 0);
        x.refuse(1, 0, 0);
        due("1 and 1", x.told(2), 0);
        x.pass(1);
        x.refuse(0, 1, 0);
        due("2 and 1", x.told(2), 0);
        x.pass(1);
        x.refuse(1, 0, 0);
        due("2 and 2: of(0, 2)", x.of(0, 2), 1);
        due("2 and 2: of(1, 2)", x.of(1, 2), 0);
    }

    @Holds(promise = 6, says = "Then, if TALLY is 2 either way, and neither is WED, they are WED.")
    void notWedAtTwoOneWay() {
        RefusedTwice x = comesTo(kinds(LOUD, LOUD), row(1, 0, 2));
        due("0 and 2", x.told(2), 0);
        due("a first, to one who has said two", x.refuse(0, 1, 0), 1);
        due("1 and 2: of(0, 2)", x.of(0, 2), NIL);
        due("1 and 2: of(1, 2)", x.of(1, 2), NIL);
        x.pass(1);
        due("a second", x.refuse(0, 1, 1), 2);
        due("2 and 2: told(2)", x.told(2), 2);
    }

    @Holds(promise = 6, says = "and neither is WED,")
    void notWedWhileOneIs() {
        RefusedTwice x = comesTo(sixLoud(), row(0, 1, 2), row(1, 0, 2), row(0, 2, 2), row(2, 0, 2), row(3, 1, 2),
                row(1, 3, 2));
        due("to whom the last is said is WED: of(2, 2)", x.of(2, 2), NIL);
        due("who says the last is WED: of(3, 2)", x.of(3, 2), NIL);
        due("of(0, 2)", x.of(0, 2), 1);
        due("of(1, 2)", x.of(1, 2), 0);
        bond("2 and 2, not WED", x, 2, 0, 2, 3, 1);
        x.refuse(0, 1, 0);
        due("0 is free, but no NO was said to 2", x.of(0, 2), NIL);
        due("of(2, 2)", x.of(2, 2), NIL);
    }

    @Holds(promise = 6, says = "What does not COUNT changes nothing.")
    void whatDoesNotCount() {
        RefusedTwice x = comesTo(kinds(ONE, LOUD), row(0, 1, 2), row(1, 0, 2));
        due("they are WED", x.told(2), 2);
        due("by a USED word", x.refuse(0, 1, 0), NIL);
        reads(x, DEAF_TO_ALL);
        due("not HEARD", x.refuse(0, 1, 3), NIL);
        reads(x, "begin 3");
        due("ahead of BEGIN", x.refuse(1, 0, 3), NIL);
        bond("of 0", x, 0, 1, 2, 3, 1);
        bond("of 1", x, 1, 0, 2, 3, 1);
        due("they are WED still", x.told(2), 2);
        due("told(0)", x.told(0), 2);
    }
}
