/** Promises 18 to 21: plans row by row, their ends, books and what they are looked at for. */
public final class PlanTest {
    private static final Check CHECK = new Check();

    private static void due(String call, long got, long want) {
        CHECK.due(call, got, want);
    }

    public static void main(String[] args) {
        planning();
        ending();
        endsGoOnFromNow();
        beyondTheLastDay();
        booking();
        looking();
        CHECK.end();
    }

    private static void planning() {
        RefusedTwice x = Check.people(0, 0, 0, 0);
        due("NONE: what", x.plan(2, 10), -1);
        due("NONE: what below", x.plan(-2, 10), -1);
        int[] none = {210, 20, 610, 1010, 14, 109, 4, -1, -10, -100, 99990, Integer.MAX_VALUE, Integer.MIN_VALUE};
        for (int n : none) {
            due("NONE: plan(1, " + n + ")", x.plan(1, n), -1);
        }
        due("BAD: one is both", x.plan(1, 2), -2);
        due("BAD: one is both", x.plan(1, 113), -2);
        due("count(3)", x.count(3), 0);
        due("a NO", x.plan(1, 13), 1);
        due("a day, whatever n", x.plan(0, -77), 2);
        due("a day, whatever n", x.plan(0, 999), 3);
        for (int i = 4; i <= 10; i++) {
            due("a NO", x.plan(1, 100), i);
        }
        due("FULL", x.plan(1, 13), -4);
        due("FULL", x.plan(0, 0), -4);
        due("NONE at 10", x.plan(1, 14), -1);
        due("BAD at 10", x.plan(1, 0), -2);
        due("count(3)", x.count(3), 10);
        due("empty", x.plan(-1, 14), 0);
        due("count(3)", x.count(3), 0);
        due("anew", x.plan(0, 0), 1);
    }

    private static void ending() {
        RefusedTwice x = Check.people(0, 0, 5, 0, 0, 0);
        due("NONE", x.ends(2), -1);
        due("NONE", x.ends(-1), -1);
        due("an empty plan", x.ends(0), 0);
        due("an empty plan", x.ends(1), 0);
        int[] row = {12, 13, 103, -1, 13, 100, 203};
        int[] tallies = {1, 1, 2, 2, 3, 4, 5};
        int[] wed = {0, 0, 0, 0, 0, 2, 2};
        for (int i = 0; i < row.length; i++) {
            due("plan", x.plan(row[i] < 0 ? 0 : 1, row[i]), i + 1);
            due("tallies behind row " + i, x.ends(1), tallies[i]);
            due("wed behind row " + i, x.ends(0), wed[i]);
        }
        x.plan(0, 0);
        x.plan(1, 101);
        due("undone", x.ends(0), 0);
        due("undone", x.ends(1), 1);
        due("nothing has gone", x.told(0), 0);
        due("nothing has counted", x.told(3), 0);
        due("nobody is wed", x.told(2), 0);
    }

    private static void endsGoOnFromNow() {
        RefusedTwice x = Check.people(5, 0, 6, 0, 2, 0);
        x.plan(1, 10);
        x.plan(0, 0);
        x.plan(1, 103);
        due("told has no row", x.ends(1), 1);
        x.row(1, 2, 1);
        x.pass(1);
        due("day 2 has one", x.ends(1), 2);
        x.refuse(0, 1, 0);
        due("not twice on a day", x.ends(1), 2);
        x.pass(1);
        due("day 3 has none", x.ends(1), 2);
        x.refuse(1, 0, 3);
        x.pass(1);
        x.refuse(0, 1, 0);
        x.pass(3);
        due("as now", x.told(3), 3);
        x.plan(-1, 0);
        x.plan(1, 103);
        due("day 6: wed", x.ends(0), 2);
        x.refuse(1, 0, 3);
        due("wed", x.told(2), 2);
        due("undone by the plan on another day", x.ends(1), 4);
        x.pass(4);
        due("day 10", x.ends(0), 0);
        Check.reads(x, "deaf 1 p=1");
        due("not heard", x.ends(0), 2);
    }

    private static void beyondTheLastDay() {
        RefusedTwice x = Check.people(1, 0, 0, 0);
        for (int i = 0; i < 166; i++) {
            x.pass(60);
        }
        x.pass(39);
        x.plan(1, 10);
        due("day 9999 is odd", x.ends(1), 0);
        x.plan(0, 0);
        x.plan(1, 10);
        due("day 10000 is even", x.ends(1), 1);
        due("day", x.told(0), 9999);
    }

    private static void booking() {
        RefusedTwice x = Check.people(0, 0, 0, 0);
        int[][] none = {{2, 0, 0}, {-2, 0, 0}, {0, 2, 0}, {0, -1, 0}, {2, 2, 3}};
        for (int[] n : none) {
            due("book NONE", x.book(n[0], n[1], n[2]), -1);
        }
        due("book BAD: one is both", x.book(0, 0, 0), -2);
        due("book BAD: tally", x.book(0, 1, 3), -2);
        due("book BAD: tally below", x.book(0, 1, -1), -2);
        due("count(4)", x.count(4), 0);
        for (int i = 1; i <= 8; i++) {
            due("book", x.book(0, 1, 0), i);
        }
        due("book FULL", x.book(0, 1, 0), -4);
        due("book BAD at 8", x.book(0, 1, 3), -2);
        due("book NONE at 8", x.book(0, 2, 3), -1);
        due("count(4)", x.count(4), 8);
        due("looked", x.looked(), -5);
        due("book of one -1", x.book(-1, 9, 9), 0);
        due("count(4)", x.count(4), 0);
        due("anew", x.book(1, 0, 2), 1);
    }

    private static void looking() {
        RefusedTwice x = Check.people(5, 0, 5, 0, 5, 0);
        due("an empty book", x.looked(), -5);
        x.refuse(0, 1, 0);
        x.refuse(2, 0, 0);
        x.book(0, 1, 1);
        x.book(1, 0, 0);
        x.book(2, 0, 1);
        due("all as told", x.looked(), -5);
        x.book(0, 2, 1);
        x.book(0, 1, 2);
        due("the first otherwise", x.looked(), 3);
        x.pass(1);
        x.refuse(2, 0, 0);
        due("otherwise now", x.looked(), 2);
        x.refuse(0, 1, 0);
        due("otherwise now", x.looked(), 0);
    }
}
