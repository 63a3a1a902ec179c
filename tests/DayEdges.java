/** The edges of promises 10 and 11: days, and what is told of all. */
final class DayEdges extends Edges {
    // ---- promise 10

    @Holds(promise = 10, says = "What 0 DAY,")
    void day() {
        RefusedTwice x = new RefusedTwice();
        due("at first", x.told(0), 0);
        due("day 9999", goes(x, 9999).told(0), 9999);
    }

    @Holds(promise = 10, says = "1 BEGIN,")
    void begin() {
        RefusedTwice x = new RefusedTwice();
        due("no STREET", x.told(1), 0);
        reads(x, "begin 99");
        due("the latest that can be", x.told(1), 99);
        reads(x, "begin 0");
        due("the first that can be", x.told(1), 0);
    }

    @Holds(promise = 10, says = "2 how many are WED,")
    void howManyAreWed() {
        RefusedTwice x = sixLoud();
        due("none", x.told(2), 0);
        comesTo(x, row(0, 5, 2), row(5, 0, 2));
        due("two", x.told(2), 2);
        comesTo(x, row(1, 4, 2), row(4, 1, 2), row(2, 3, 2), row(3, 2, 2));
        due("all", x.told(2), 6);
        x.refuse(3, 2, 0);
        due("two fewer", x.told(2), 4);
    }

    @Holds(promise = 10, says = "3 TALLIES of all, together,")
    void talliesOfAll() {
        RefusedTwice x = sixLoud();
        due("none", x.told(3), 0);
        for (int day = 0; day < 2; day++) {
            for (int i = 0; i < 36; i++) {
                x.refuse(i / 6, i % 6, day);
            }
            x.pass(1);
        }
        due("the most", x.told(3), 60);
        x.refuse(5, 0, 0);
        due("undone between two", x.told(3), 56);
    }

    @Holds(promise = 10, says = "4 how many pairs are NEAR,")
    void howManyAreNear() {
        due("nobody", new RefusedTwice().told(4), 0);
        due("one alone", kinds(LOUD).told(4), 0);
        RefusedTwice x = comesTo(sixLoud(), row(0, 5, 2), row(5, 0, 1));
        due("the first to the last", x.told(4), 1);
    }

    @Holds(promise = 10, says = "5 the first of them (-5),")
    void firstOfTheNear() {
        due("nobody", new RefusedTwice().told(5), NIL);
        due("none", sixLoud().told(5), NIL);
        RefusedTwice x = comesTo(sixLoud(), row(5, 0, 2), row(0, 5, 1));
        due("0 and 5", x.told(5), 5);
    }

    @Holds(promise = 10, says = "6 WALL (bits).")
    void wall() {
        due("nobody", new RefusedTwice().told(6), 0);
        due("none near", sixLoud().told(6), 0);
        RefusedTwice x = comesTo(sixLoud(), row(4, 5, 2), row(5, 4, 1));
        due("4 and 5", x.told(6), 16);
    }

    @Holds(promise = 10, says = "NONE.")
    void noSuchWhat() {
        for (int what : new int[] {-1, 7, LEAST, MOST}) {
            due("told(" + what + ")", sixLoud().told(what), NONE);
        }
    }

    // ---- promise 11

    @Holds(promise = 11, says = "A DAY goes: DAY is 1 more.")
    void oneMore() {
        RefusedTwice x = new RefusedTwice();
        for (int day = 1; day <= 5; day++) {
            due("pass(1)", x.pass(1), day);
            due("told(0)", x.told(0), day);
        }
    }

    @Holds(promise = 11, says = "n DAYS (0 .. 60) go: DAY.")
    void noneOrSixty() {
        RefusedTwice x = new RefusedTwice();
        due("pass(0)", x.pass(0), 0);
        due("pass(60)", x.pass(60), 60);
        due("pass(0)", x.pass(0), 60);
        due("pass(59)", x.pass(59), 119);
        due("told(0)", x.told(0), 119);
    }

    @Holds(promise = 11, says = "BAD;")
    void soManyDaysDoNotGo() {
        RefusedTwice x = new RefusedTwice();
        x.pass(5);
        for (int n : new int[] {-1, 61, LEAST, MOST}) {
            due("pass(" + n + ")", x.pass(n), BAD);
            due("told(0)", x.told(0), 5);
        }
    }

    @Holds(promise = 11, says = "STATE: it would be above 9999.")
    void noDayAbove9999() {
        RefusedTwice x = goes(new RefusedTwice(), 9940);
        due("to 10000", x.pass(60), STATE);
        due("told(0)", x.told(0), 9940);
        due("to 9999", x.pass(59), 9999);
        due("to 10000", x.pass(1), STATE);
        due("to 10059", x.pass(60), STATE);
        due("none", x.pass(0), 9999);
        due("told(0)", x.told(0), 9999);
    }
}
