/** Promises 1, 2, 3, 4 (its first numbers), 7: a new object, people and their rows. */
public final class PeopleTest {
    private static final Check CHECK = new Check();

    private static void due(String call, long got, long want) {
        CHECK.due(call, got, want);
    }

    public static void main(String[] args) {
        constants();
        newObject();
        ones();
        whatIsOfOne();
        whatIsBetween();
        rows();
        CHECK.end();
    }

    private static void constants() {
        due("NONE", RefusedTwice.NONE, -1);
        due("BAD", RefusedTwice.BAD, -2);
        due("STATE", RefusedTwice.STATE, -3);
        due("FULL", RefusedTwice.FULL, -4);
        due("NO", RefusedTwice.NO, -9223372036854775808L);
    }

    private static void newObject() {
        RefusedTwice x = new RefusedTwice();
        for (int what = 0; what <= 6; what++) {
            due("new count(" + what + ")", x.count(what), 0);
        }
        due("new of(0, 0)", x.of(0, 0), -1);
        due("new told(1)", x.told(1), 0);
        due("new judge(0, 0)", x.judge(0, 0), -5);
        due("new undo()", x.undo(), -3);
        due("new read(0, 0)", x.read(0, 0), RefusedTwice.NO);
    }

    private static void ones() {
        RefusedTwice x = new RefusedTwice();
        due("one(-1, 0)", x.one(-1, 0), -1);
        due("one(7, 0)", x.one(7, 0), -1);
        due("one(7, 10)", x.one(7, 10), -1);
        due("one(0, -1)", x.one(0, -1), -2);
        due("one(0, 10)", x.one(0, 10), -2);
        due("count(0) behind refusals", x.count(0), 0);
        due("one(0, 0)", x.one(0, 0), 0);
        due("one(6, 9)", x.one(6, 9), 1);
        due("one(1, 1)", x.one(1, 1), 2);
        due("one(2, 2)", x.one(2, 2), 3);
        due("one(3, 3)", x.one(3, 3), 4);
        due("one(4, 4)", x.one(4, 4), 5);
        due("one(5, 5) beyond 6", x.one(5, 5), -4);
        due("one(7, 5) beyond 6", x.one(7, 5), -1);
        due("one(5, 10) beyond 6", x.one(5, 10), -2);
        due("count(0)", x.count(0), 6);
    }

    private static void whatIsOfOne() {
        RefusedTwice x = Check.people(5, 3, 5, 4, 0, 9);
        due("of(0, 0)", x.of(0, 0), 5);
        due("of(2, 0)", x.of(2, 0), 0);
        due("of(0, 1)", x.of(0, 1), 3);
        due("of(2, 1)", x.of(2, 1), 9);
        due("of(0, 2)", x.of(0, 2), -5);
        due("of(3, 0)", x.of(3, 0), -1);
        due("of(-1, 0)", x.of(-1, 0), -1);
        due("of(0, -1)", x.of(0, -1), -1);
        due("of(0, 5)", x.of(0, 5), -1);
        x.refuse(0, 1, 0);
        x.refuse(0, 2, 0);
        x.refuse(1, 0, 0);
        x.refuse(1, 2, 0);
        x.pass(1);
        x.refuse(0, 1, 0);
        due("of(0, 3): 2 to 1, 1 to 2", x.of(0, 3), 3);
        due("of(1, 3)", x.of(1, 3), 2);
        due("of(2, 3)", x.of(2, 3), 0);
        due("of(0, 4)", x.of(0, 4), 1);
        due("of(1, 4)", x.of(1, 4), 2);
        due("of(2, 4)", x.of(2, 4), 2);
        x.refuse(1, 0, 1);
        due("of(0, 2) wed", x.of(0, 2), 1);
        due("of(1, 2) wed", x.of(1, 2), 0);
        due("of(2, 2)", x.of(2, 2), -5);
    }

    private static void whatIsBetween() {
        RefusedTwice x = Check.people(0, 1, 0, 2);
        x.pass(7);
        due("tally at first", x.between(0, 1, 0), 0);
        due("used at first", x.between(0, 1, 1), 0);
        due("last at first", x.between(0, 1, 2), -5);
        due("word at first", x.between(0, 1, 3), 0);
        x.refuse(0, 1, 0);
        due("tally", x.between(0, 1, 0), 1);
        due("used", x.between(0, 1, 1), 1);
        due("last", x.between(0, 1, 2), 7);
        due("no word on the day of last", x.between(0, 1, 3), -5);
        due("tally the other way", x.between(1, 0, 0), 0);
        due("used the other way", x.between(1, 0, 1), 0);
        due("last the other way", x.between(1, 0, 2), -5);
        x.pass(1);
        due("the first word not used", x.between(0, 1, 3), 1);
        x.refuse(0, 1, 3);
        due("tally 2", x.between(0, 1, 0), 2);
        due("used 0 and 3", x.between(0, 1, 1), 9);
        due("last 8", x.between(0, 1, 2), 8);
        due("NONE: one", x.between(2, 0, 0), -1);
        due("NONE: other", x.between(0, -1, 0), -1);
        due("NONE: what below", x.between(0, 1, -1), -1);
        due("NONE: what above", x.between(0, 1, 6), -1);
        due("NONE ahead of BAD", x.between(1, 1, 6), -1);
        due("BAD: one is both", x.between(1, 1, 0), -2);
        due("NONE: nobody is both", x.between(2, 2, 0), -1);
    }

    private static void rows() {
        RefusedTwice x = Check.people(6, 1, 3, 2, 6, 3);
        due("row(0, 0, 9)", x.row(0, 0, 9), 0);
        due("row(0, 3, 1)", x.row(0, 3, 1), 0);
        due("row(2, 0, 4)", x.row(2, 0, 4), 0);
        due("row(0, 0, 0): what it was", x.row(0, 0, 0), 9);
        due("row(0, 3, 2): what it was", x.row(0, 3, 2), 1);
        due("row(2, 0, 0): what it was", x.row(2, 0, 0), 4);
        due("NONE: person", x.row(3, 0, 0), -1);
        due("NONE: person below", x.row(-1, 0, 0), -1);
        due("NONE: part", x.row(0, 4, 0), -1);
        due("NONE: part below", x.row(0, -1, 0), -1);
        due("NONE ahead of BAD", x.row(0, 4, 10), -1);
        due("BAD", x.row(0, 0, 10), -2);
        due("BAD below", x.row(0, 0, -1), -2);
        due("BAD ahead of STATE", x.row(1, 0, 10), -2);
        due("STATE: a MUTE one has no row", x.row(1, 0, 1), -3);
        due("row(0, 3, 0) behind refusals", x.row(0, 3, 0), 2);
    }
}
