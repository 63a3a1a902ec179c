/** Promises 22 to 24: judging a row of whom each is wed to, the image, and undo. */
public final class ImageTest {
    private static final Check CHECK = new Check();

    private static void due(String call, long got, long want) {
        CHECK.due(call, got, want);
    }

    public static void main(String[] args) {
        judging();
        judgingNobody();
        undoing();
        whatIsNotInTheImage();
        peopleOfTheImage();
        rowsOfTheImage();
        CHECK.end();
    }

    /** 0 is wed to 2; 1 and 3 to nobody. */
    private static RefusedTwice wedOnes() {
        RefusedTwice x = Check.people(5, 0, 5, 0, 5, 0, 5, 0);
        for (int day = 0; day < 2; day++) {
            x.refuse(0, 2, day);
            x.refuse(2, 0, day);
            x.pass(1);
        }
        return x;
    }

    private static void judging() {
        RefusedTwice x = wedOnes();
        due("NONE", x.judge(6, 0), -1);
        due("NONE below", x.judge(-1, 0), -1);
        due("holds nothing", x.judge(0, 0), 100);
        for (int sort = 1; sort <= 4; sort++) {
            x.tape(1, sort, 10);
            due("CAST: sort " + sort, x.judge(1, 0), -12);
            due("CAST, whatever the place", x.judge(1, -1), -12);
        }
        x.tape(0, 0, 6);
        int[] row = {9, 2, -5, 0, -5, 8};
        for (int i = 0; i < row.length; i++) {
            x.item(0, i, row[i]);
        }
        due("from 1 on", x.judge(0, 1), -5);
        due("from 0 on: 9 is not 2", x.judge(0, 0), 0);
        due("from 2 on", x.judge(0, 2), 0);
        due("place below 0", x.judge(0, -1), 100);
        due("place least", x.judge(0, Integer.MIN_VALUE), 100);
        due("place at the end", x.judge(0, 6), 100);
        due("place most", x.judge(0, Integer.MAX_VALUE), 100);
        x.item(0, 4, 2);
        due("3 is wed to nobody", x.judge(0, 1), 3);
        due("from 4 on: 2, then 8", x.judge(0, 4), 1);
        x.item(0, 5, -5);
        due("from 4 on the row ends", x.judge(0, 4), 102);
        x.item(0, 5, 2);
        due("from 5 on the row ends", x.judge(0, 5), 101);
        x.tape(2, 0, 0);
        due("an empty row", x.judge(2, 0), 100);
    }

    private static void judgingNobody() {
        RefusedTwice x = new RefusedTwice();
        due("no people", x.judge(0, 0), -5);
        due("no people, no place", x.judge(0, -1), -5);
        x.tape(0, 0, 2);
        due("no people", x.judge(0, 7), -5);
        x.tape(0, 1, 2);
        due("no people, CAST", x.judge(0, 0), -12);
        due("no people, NONE", x.judge(6, 0), -1);
    }

    private static void undoing() {
        RefusedTwice x = new RefusedTwice();
        due("STATE", x.undo(), -3);
        due("image of nobody", x.image(), 0);
        x.one(6, 3);
        x.one(5, 0);
        due("undo to nobody", x.undo(), 0);
        due("nobody", x.count(0), 0);
        x.one(6, 3);
        x.one(5, 0);
        x.row(0, 1, 4);
        Check.reads(x, "deaf 1 w=3;begin 2");
        x.pass(3);
        x.refuse(1, 0, 2);
        x.say(1, 0, 0, 1, true);
        x.plan(0, 0);
        x.plan(1, 100);
        x.book(1, 0, 1);
        due("image", x.image(), 2);
        x.pass(2);
        x.refuse(1, 0, 1);
        x.row(0, 1, 0);
        x.one(0, 0);
        x.say(2, 0, 0, 1, true);
        x.plan(-1, 0);
        x.book(2, 0, 0);
        x.book(0, 1, 0);
        Check.reads(x, "begin 9");
        for (int i = 0; i < 2; i++) {
            due("undo", x.undo(), 2);
            due("people", x.count(0), 2);
            due("day", x.told(0), 3);
            due("begin", x.told(1), 2);
            due("tally", x.between(1, 0, 0), 1);
            due("used", x.between(1, 0, 1), 4);
            due("last", x.between(1, 0, 2), 3);
            due("said", x.count(2), 1);
            due("plan", x.count(3), 2);
            due("book", x.count(4), 1);
            due("book as it was", x.looked(), -5);
            due("plan as it was", x.ends(1), 2);
            due("row", x.row(0, 1, 7), 4);
            x.pass(1);
            x.refuse(1, 0, 0);
            x.say(-1, 0, 0, 0, true);
        }
    }

    private static void whatIsNotInTheImage() {
        RefusedTwice x = Check.people(0, 1, 0, 2);
        x.image();
        due("street", Check.reads(x, "deaf 1 w=0;begin 1"), 0);
        Check.feeds(x, "begin");
        x.act(1, 0, 5);
        x.tape(3, 2, 4);
        x.item(3, 0, 77);
        x.undo();
        due("no street holds", x.told(1), 0);
        due("all is heard", x.counts(0, 1, 0), 1);
        due("streets stay", x.count(1), 1);
        due("the text stays", x.count(5), 5);
        due("the trace stays", x.trace(0), 10);
        due("tapes stay", x.read(3, 0), 77);
        due("the next street", Check.reads(x, " 4"), 1);
        due("holds", x.told(1), 4);
        x.undo();
        due("the image stays", x.told(1), 0);
    }

    private static void rowsOfTheImage() {
        RefusedTwice x = Check.people(5, 1, 5, 2);
        x.say(0, 1, 0, 0, true);
        x.say(0, 1, 0, 0, false);
        x.plan(1, 10);
        x.book(0, 1, 0);
        x.book(0, 1, 1);
        x.image();
        x.say(-1, 0, 0, 0, true);
        x.say(1, 0, 0, 0, false);
        x.say(1, 0, 0, 0, false);
        x.plan(-1, 0);
        x.plan(0, 0);
        x.book(-1, 0, 0);
        x.book(0, 1, 2);
        x.book(0, 1, 2);
        x.undo();
        due("said as it was", x.wrong(), 1);
        due("said as it was", x.can(1, 0), 10);
        due("the plan as it was", x.ends(1), 1);
        due("the book as it was", x.looked(), 1);
    }

    private static void peopleOfTheImage() {
        RefusedTwice x = Check.people(5, 1, 5, 2);
        x.image();
        x.one(5, 3);
        x.refuse(2, 0, 1);
        x.refuse(0, 2, 1);
        x.pass(1);
        x.refuse(2, 0, 1);
        x.refuse(0, 2, 1);
        due("0 is wed to 2", x.of(0, 2), 2);
        x.undo();
        due("0 is wed to nobody", x.of(0, 2), -5);
        due("2 is not there", x.of(2, 0), -1);
        due("another 2", x.one(6, 8), 2);
        due("its kind", x.of(2, 0), 6);
        due("its v", x.of(2, 1), 8);
        due("its wedding", x.of(2, 2), -5);
        due("its tallies", x.of(2, 3) + x.of(2, 4), 0);
        due("its last", x.between(2, 0, 2), -5);
        due("last to it", x.between(0, 2, 2), -5);
        for (int part = 0; part < 4; part++) {
            due("its row", x.row(2, part, 1), 0);
        }
        x.undo();
        due("told anew", x.one(6, 8), 2);
        due("its row is 0 again", x.row(2, 2, 0), 0);
    }
}
