/** The edges of promises 22 to 24: what is JUDGED, THE IMAGE, and how all is behind undo. */
final class ImageEdges extends Edges {
    /** A tape becomes a row of bytes. */
    private static void tells(RefusedTwice x, int tape, int... items) {
        x.tape(tape, 0, items.length);
        for (int i = 0; i < items.length; i++) {
            x.item(tape, i, items[i]);
        }
    }

    /** 0 is WED to 2, 3 to 5; 1 and 4 to nobody. */
    private static RefusedTwice fourWed() {
        return comesTo(sixLoud(), row(0, 2, 2), row(2, 0, 2), row(5, 3, 2), row(3, 5, 2));
    }

    // ---- promise 22

    @Holds(promise = 22, says = "With whom each is WED (-5: nobody), told by a row of bytes, from a place on, one by one, is JUDGED: the first that is otherwise; -5: none,")
    void theFirstOtherwise() {
        int[] wed = {2, NIL, 0, 5, NIL, 3};
        RefusedTwice x = fourWed();
        tells(x, 0, wed);
        due("as it is", x.judge(0, 0), NIL);
        for (int person = 0; person < 6; person++) {
            x.item(0, person, 1);
            due("otherwise at " + person, x.judge(0, 0), person);
            x.item(0, person, wed[person]);
        }
        x.item(0, 5, 0);
        x.item(0, 2, NIL);
        due("the first of two", x.judge(0, 0), 2);
        due("what is asked again", x.judge(0, 0), 2);
    }

    @Holds(promise = 22, says = "told by a row of bytes,")
    void nobodyAsAByte() {
        RefusedTwice x = kinds(LOUD);
        tells(x, 0, 251);
        due("251 is -5 as a byte", x.judge(0, 0), NIL);
        tells(x, 0, 0);
        due("0 is not -5", x.judge(0, 0), 0);
        tells(x, 0, 9);
        due("9 is not -5", x.judge(0, 0), 0);
    }

    @Holds(promise = 22, says = "JUDGED from place i of a TAPE on.")
    void fromAPlaceOn() {
        RefusedTwice x = kinds(LOUD, LOUD);
        x.tape(5, 0, 60);
        x.item(5, 58, NIL);
        x.item(5, 59, NIL);
        due("the last place from which it fits", x.judge(5, 58), NIL);
        due("one ahead", x.judge(5, 57), 0);
        due("one behind", x.judge(5, 59), 101);
        x.item(5, 58, 1);
        x.item(5, 57, NIL);
        due("the second is otherwise", x.judge(5, 57), 1);
    }

    @Holds(promise = 22, says = "or there are no PEOPLE;")
    void noPeople() {
        RefusedTwice x = new RefusedTwice();
        due("a TAPE that holds nothing", x.judge(0, 0), NIL);
        due("a place below 0", x.judge(0, -1), NIL);
        x.tape(1, 0, 0);
        due("a row of none", x.judge(1, 0), NIL);
        tells(x, 1, 3);
        due("a row", x.judge(1, 0), NIL);
        due("a place beyond", x.judge(1, MOST), NIL);
    }

    @Holds(promise = 22, says = "100 and how many were looked at, if the row ends ahead of that")
    void theRowEnds() {
        RefusedTwice x = fourWed();
        int[] wed = {2, NIL, 0, 5, NIL, 3};
        for (int items = 0; items < 6; items++) {
            tells(x, 0, java.util.Arrays.copyOf(wed, items));
            due("a row of " + items, x.judge(0, 0), 100 + items);
        }
        tells(x, 0, 2, NIL, 1);
        due("otherwise ahead of the end", x.judge(0, 0), 2);
        tells(x, 0, wed);
        due("at the end", x.judge(0, 6), 100);
        due("beyond the end", x.judge(0, 7), 100);
        due("far beyond the end", x.judge(0, MOST), 100);
        due("far beyond the end", x.judge(0, MOST - 5), 100);
        x.tape(1, 0, 60);
        due("of 60", x.judge(1, 60), 100);
    }

    @Holds(promise = 22, says = "(or the place is below 0, or the TAPE holds nothing).")
    void aPlaceBelowZeroOrNothing() {
        RefusedTwice x = kinds(LOUD);
        tells(x, 0, NIL, NIL);
        due("place -1", x.judge(0, -1), 100);
        due("place least", x.judge(0, LEAST), 100);
        for (int tape = 1; tape <= 5; tape++) {
            due("nothing", x.judge(tape, 0), 100);
            due("nothing, place 5", x.judge(tape, 5), 100);
            due("nothing, place -1", x.judge(tape, -1), 100);
        }
        x.tape(0, -1, 0);
        due("nothing again", x.judge(0, 0), 100);
    }

    @Holds(promise = 22, says = "NONE: tape;")
    void noSuchTape() {
        for (int tape : new int[] {-1, 6, LEAST, MOST}) {
            due("judge(" + tape + ", 0)", kinds(LOUD).judge(tape, 0), NONE);
            due("judge(" + tape + ", 0) of nobody", new RefusedTwice().judge(tape, 0), NONE);
        }
    }

    @Holds(promise = 22, says = "CAST: it is no row of bytes.")
    void noRowOfBytes() {
        for (int sort = 1; sort <= 4; sort++) {
            for (int n : new int[] {0, 1, 60}) {
                RefusedTwice x = kinds(LOUD);
                x.tape(0, sort, n);
                due("sort " + sort, x.judge(0, 0), CAST);
            }
        }
    }

    // ---- promise 23

    @Holds(promise = 23, says = "THE IMAGE is taken: how many PEOPLE there are.")
    void nobodyOrSix() {
        due("nobody", new RefusedTwice().image(), 0);
        RefusedTwice x = sixLoud();
        due("six", x.image(), 6);
        due("again", x.image(), 6);
    }

    @Holds(promise = 23, says = "THE IMAGE is taken:")
    void theLatestImage() {
        RefusedTwice x = kinds(LOUD);
        x.image();
        x.pass(1);
        x.one(ONE, 0);
        due("a second", x.image(), 2);
        x.pass(1);
        due("the second", x.undo(), 2);
        due("told(0)", x.told(0), 1);
    }

    // ---- promise 24

    @Holds(promise = 24, says = "STATE: there is none.")
    void noImage() {
        due("of nobody", new RefusedTwice().undo(), STATE);
        RefusedTwice x = sixLoud();
        x.pass(1);
        due("of six", x.undo(), STATE);
        due("count(0)", x.count(0), 6);
        due("told(0)", x.told(0), 1);
    }

    @Holds(promise = 24, says = "All is as THE IMAGE: how many PEOPLE.")
    void againAndAgain() {
        RefusedTwice x = kinds(LOUD, LOUD);
        x.image();
        for (int i = 0; i < 3; i++) {
            x.one(ONE, 1);
            x.pass(1);
            x.refuse(0, 1, 0);
            due("undo()", x.undo(), 2);
            due("count(0)", x.count(0), 2);
            due("told(0)", x.told(0), 0);
            bond("as it was", x, 0, 1, 0, 0, NIL);
        }
        RefusedTwice nobody = new RefusedTwice();
        nobody.image();
        nobody.one(ONE, 0);
        due("to nobody", nobody.undo(), 0);
        due("of(0, 0)", nobody.of(0, 0), NONE);
        due("the first again", nobody.one(MUTE, 1), 0);
        RefusedTwice six = sixLoud();
        six.image();
        due("to six", six.undo(), 6);
        due("a seventh", six.one(ONE, 0), FULL);
    }

    @Holds(promise = 24, says = "THE IMAGE: PEOPLE with all that is theirs,")
    void peopleAndTheirs() {
        RefusedTwice x = Check.people(TOLD, 3, LOUD, 4, LOUD, 5);
        x.row(0, 0, 1);
        x.row(0, 3, 9);
        comesTo(x, row(1, 2, 2), row(2, 1, 2));
        x.image();
        x.row(0, 0, 2);
        x.row(0, 3, 0);
        x.refuse(1, 2, 0);
        x.one(ONE, 9);
        due("undo()", x.undo(), 3);
        due("KIND", x.of(0, 0), TOLD);
        due("v", x.of(0, 1), 3);
        due("WED", x.of(1, 2), 2);
        due("WED", x.of(2, 2), 1);
        due("ROW at 0", x.row(0, 0, 0), 1);
        due("ROW at 1", x.row(0, 1, 0), 0);
        due("ROW at 3", x.row(0, 3, 0), 9);
        due("who came later", x.of(3, 0), NONE);
        due("another comes", x.one(TOLD, 8), 3);
        due("its KIND", x.of(3, 0), TOLD);
        due("its v", x.of(3, 1), 8);
        due("its ROW", x.row(3, 0, 0), 0);
    }

    @Holds(promise = 24, says = "THE IMAGE: PEOPLE with all that is theirs,")
    void whoCameLaterLeavesRoom() {
        RefusedTwice x = goes(kinds(LOUD, LOUD, LOUD, LOUD, LOUD), 1);
        x.image();
        due("a sixth", x.one(KIND, 1), 5);
        x.plan(1, 500);
        due("the sixth is KIND on an odd day", x.ends(1), 0);
        due("undo()", x.undo(), 5);
        due("another sixth", x.one(LOUD, 2), 5);
        x.plan(1, 500);
        due("that one is LOUD", x.ends(1), 1);
        due("its KIND", x.of(5, 0), LOUD);
        due("a seventh", x.one(LOUD, 0), FULL);
    }

    @Holds(promise = 24, says = "what is between them,")
    void whatIsBetweenThem() {
        RefusedTwice x = comesTo(kinds(LOUD, LOUD, LOUD), row(0, 1, 2), row(1, 0, 1));
        x.image();
        x.pass(1);
        x.refuse(0, 1, 3);
        x.refuse(0, 2, 3);
        x.undo();
        bond("0 to 1", x, 0, 1, 2, 3, 1);
        bond("1 to 0", x, 1, 0, 1, 1, 0);
        bond("0 to 2", x, 0, 2, 0, 0, NIL);
        RefusedTwice later = kinds(LOUD);
        later.image();
        later.one(LOUD, 0);
        later.refuse(0, 1, 2);
        later.refuse(1, 0, 2);
        later.undo();
        later.one(LOUD, 0);
        bond("to another 1", later, 0, 1, 0, 0, NIL);
        bond("of another 1", later, 1, 0, 0, 0, NIL);
    }

    @Holds(promise = 24, says = "DAY, SAID, the PLAN, the BOOK,")
    void dayAndRows() {
        RefusedTwice x = kinds(LOUD, LOUD);
        x.pass(7);
        x.say(1, 0, 3, 0, true);
        x.say(0, 1, 0, 0, false);
        x.plan(0, 0);
        x.plan(1, 10);
        x.plan(1, 100);
        x.book(0, 1, 0);
        x.image();
        x.pass(60);
        x.say(-1, 0, 0, 0, true);
        x.say(1, 0, 3, 20, false);
        x.plan(-1, 0);
        x.plan(0, 0);
        x.book(-1, 0, 0);
        x.book(0, 1, 1);
        x.book(0, 1, 1);
        x.undo();
        due("DAY", x.told(0), 7);
        due("SAID", x.count(2), 2);
        due("its rows", x.wrong(), 1);
        due("the PLAN", x.count(3), 3);
        due("its rows", x.ends(1), 2);
        due("the BOOK", x.count(4), 1);
        due("its rows", x.looked(), NIL);
        due("a row more of SAID", x.say(0, 1, 0, 0, true), 3);
        due("a row more of the PLAN", x.plan(0, 0), 4);
        due("a row more of the BOOK", x.book(0, 1, 0), 2);
    }

    @Holds(promise = 24, says = "which STREET holds.")
    void whichStreetHolds() {
        RefusedTwice x = kinds(SCORNER, SCORNER);
        x.image();
        reads(x, "deaf 1 w=0;begin 0");
        x.undo();
        due("none", counting(x, 0, 1), 15);
        due("how many STREETS there are", x.count(1), 1);
        reads(x, "deaf 1 w=1");
        x.image();
        reads(x, "deaf 1 w=2;begin 3");
        x.undo();
        due("the second", counting(x, 0, 1), 13);
        due("told(1)", x.told(1), 0);
        due("the next number", reads(x, "begin 5"), 3);
        for (int i = 4; i < 6; i++) {
            reads(x, "begin 6");
        }
        x.undo();
        due("the second", counting(x, 0, 1), 13);
        due("there are 6 still", reads(x, "begin 7"), FULL);
        due("THE TEXT stays", x.count(5), 7);
    }

    @Holds(promise = 24, says = "All is as THE IMAGE:")
    void whatIsNotInTheImage() {
        RefusedTwice x = kinds(LOUD);
        Check.feeds(x, "be");
        x.tape(0, 3, 2);
        x.act(0, 0, 1);
        x.image();
        Check.feeds(x, "gin");
        x.item(0, 1, NO);
        x.tape(1, 0, 1);
        x.act(0, 2, 1);
        x.undo();
        due("THE TEXT stays", x.count(5), 5);
        due("TAPES stay", x.read(0, 1), NO);
        due("TAPES stay", x.read(1, 0), 0);
        due("THE TRACE stays", x.count(6), 5);
        due("THE TRACE stays", x.trace(0), 60);
    }
}
