/** Where several refusals fit one call: the one that the call's words name first. */
final class OrderEdges extends Edges {
    private static final String FIRST = "the first that a call's words name";
    /** Of two PEOPLE: they can be, one is both, no such one, or nobody is both. */
    private static final int[][] TWO = {{0, 1}, {1, 1}, {2, 0}, {0, 2}, {-2, 1}, {2, 2}, {-2, -2}};
    private static final boolean[] NO_OR_YES = {false, true};

    /** 0: such a NO could be said. */
    private static int ofNo(int[] two, int word) {
        boolean is = Math.min(two[0], two[1]) >= 0 && Math.max(two[0], two[1]) <= 1 && word <= 3;
        return !is ? NONE : two[0] == two[1] ? BAD : 0;
    }

    /** The first that is not 0. */
    private static int first(int... answers) {
        for (int answer : answers) {
            if (answer != 0) {
                return answer;
            }
        }
        return 0;
    }

    @Holds(promise = 2, says = FIRST)
    void one() {
        for (int kind : new int[] {0, 7}) {
            for (int v : new int[] {0, 10}) {
                for (boolean full : NO_OR_YES) {
                    RefusedTwice x = full ? sixLoud() : new RefusedTwice();
                    int want = first(kind == 7 ? NONE : 0, v == 10 ? BAD : 0, full ? FULL : 0);
                    due("one(" + kind + ", " + v + "), full: " + full, x.one(kind, v), want);
                }
            }
        }
    }

    @Holds(promise = 4, says = FIRST)
    void between() {
        for (int[] two : TWO) {
            for (int what : new int[] {0, 6, -1}) {
                int want = first(ofNo(two, what == 0 ? 0 : 4));
                due("between(" + two[0] + ", " + two[1] + ", " + what + ")",
                        kinds(LOUD, LOUD).between(two[0], two[1], what), want);
            }
        }
    }

    @Holds(promise = 5, says = FIRST)
    void counts() {
        for (int[] two : TWO) {
            for (int word : new int[] {0, 4}) {
                int want = first(ofNo(two, word), 1);
                due("counts(" + two[0] + ", " + two[1] + ", " + word + ")",
                        kinds(LOUD, LOUD).counts(two[0], two[1], word), want);
            }
        }
    }

    @Holds(promise = 6, says = FIRST)
    void refuse() {
        for (int[] two : TWO) {
            for (int word : new int[] {0, 4}) {
                int want = first(ofNo(two, word), 1);
                due("refuse(" + two[0] + ", " + two[1] + ", " + word + ")",
                        kinds(LOUD, LOUD).refuse(two[0], two[1], word), want);
            }
        }
    }

    @Holds(promise = 7, says = FIRST)
    void rowOf() {
        for (int person = 0; person <= 2; person++) {
            for (int part : new int[] {0, 4}) {
                for (int n : new int[] {0, 10}) {
                    int want = first(person == 2 || part == 4 ? NONE : 0, n == 10 ? BAD : 0, person == 1 ? STATE : 0);
                    due("row(" + person + ", " + part + ", " + n + ")", kinds(TOLD, MUTE).row(person, part, n), want);
                }
            }
        }
    }

    @Holds(promise = 8, says = FIRST)
    void feed() {
        RefusedTwice x = new RefusedTwice();
        Check.feeds(x, "x".repeat(100));
        due("feed(128) beyond 100", x.feed(128), BAD);
        due("feed(-1) beyond 100", x.feed(-1), BAD);
        due("feed(98) beyond 100", x.feed(98), FULL);
    }

    @Holds(promise = 9, says = FIRST)
    void street() {
        RefusedTwice x = new RefusedTwice();
        for (int i = 0; i < 6; i++) {
            reads(x, "begin 1");
        }
        due("an empty TEXT", x.street(), FULL);
        x.feed('x');
        due("a FAULT", x.street(), FULL);
    }

    @Holds(promise = 11, says = FIRST)
    void pass() {
        RefusedTwice x = goes(new RefusedTwice(), 9999);
        due("pass(61) on day 9999", x.pass(61), BAD);
        due("pass(most) on day 9999", x.pass(MOST), BAD);
        due("pass(60) on day 9999", x.pass(60), STATE);
    }

    @Holds(promise = 12, says = FIRST)
    void match() {
        for (int n : new int[] {-1, 0, 31}) {
            for (int what : new int[] {0, 1, 10, 12}) {
                int want = first(what == 1 || what == 12 ? NONE : 0, n != 0 ? BAD : 0, what == 10 ? NIL : 0);
                due("match(" + n + ", " + what + ")", kinds(LOUD, LOUD).match(n, what), want);
            }
        }
    }

    @Holds(promise = 13, says = FIRST)
    void say() {
        for (boolean full : NO_OR_YES) {
            for (int[] two : TWO) {
                for (int word : new int[] {0, 4}) {
                    for (int n : new int[] {0, 21}) {
                        RefusedTwice x = kinds(LOUD, LOUD);
                        for (int i = 0; i < 5; i++) {
                            x.say(full ? 0 : -1, 1, 0, 0, true);
                        }
                        int want = first(ofNo(two, word), n == 21 ? BAD : 0, full ? FULL : 1);
                        due("say(" + two[0] + ", " + two[1] + ", " + word + ", " + n + ", true), full: " + full,
                                x.say(two[0], two[1], word, n, true), want);
                    }
                }
            }
        }
    }

    @Holds(promise = 18, says = FIRST)
    void plan() {
        int[] rows = {10, 14, 20, 0, 4, -1};
        int[] refused = {0, NONE, NONE, BAD, NONE, NONE};
        for (boolean full : NO_OR_YES) {
            for (int what : new int[] {-2, 0, 1, 2}) {
                for (int i = 0; i < rows.length; i++) {
                    RefusedTwice x = kinds(LOUD, LOUD);
                    for (int row = 0; row < 10; row++) {
                        x.plan(full ? 0 : -1, 0);
                    }
                    int want = first(what < 0 || what > 1 ? NONE : 0, what == 1 ? refused[i] : 0, full ? FULL : 1);
                    due("plan(" + what + ", " + rows[i] + "), full: " + full, x.plan(what, rows[i]), want);
                }
            }
        }
    }

    @Holds(promise = 20, says = FIRST)
    void book() {
        for (boolean full : NO_OR_YES) {
            for (int[] two : TWO) {
                for (int tally : new int[] {0, 3}) {
                    RefusedTwice x = kinds(LOUD, LOUD);
                    for (int i = 0; i < 8; i++) {
                        x.book(full ? 0 : -1, 1, 0);
                    }
                    int want = first(ofNo(two, 0), tally == 3 ? BAD : 0, full ? FULL : 1);
                    due("book(" + two[0] + ", " + two[1] + ", " + tally + "), full: " + full,
                            x.book(two[0], two[1], tally), want);
                }
            }
        }
    }

    @Holds(promise = 22, says = FIRST)
    void judge() {
        for (int people = 0; people <= 1; people++) {
            RefusedTwice x = people == 0 ? new RefusedTwice() : kinds(LOUD);
            x.tape(0, 0, 1);
            x.item(0, 0, NIL);
            x.tape(1, 2, 1);
            for (int place : new int[] {0, -1, 1}) {
                due("no such TAPE, place " + place, x.judge(6, place), NONE);
                due("ints, place " + place, x.judge(1, place), CAST);
                due("nothing, place " + place, x.judge(2, place), people == 0 ? NIL : 100);
                due("bytes, place " + place, x.judge(0, place), people == 0 || place == 0 ? NIL : 100);
            }
        }
    }

    @Holds(promise = 27, says = FIRST)
    void taken() {
        for (int person : new int[] {0, 1, -1}) {
            for (int k : new int[] {0, 6, 7, -1}) {
                int want = first(k == 7 || k == -1 ? BAD : 0, person != 0 ? NOTHING : 0, k == 6 ? CAST : 0);
                due("taken(" + person + ", " + k + ")", kinds(ONE).taken(person, k), want);
            }
        }
    }

    @Holds(promise = 29, says = FIRST)
    void tape() {
        for (int tape : new int[] {0, 6}) {
            for (int sort : new int[] {-2, -1, 0, 4, 5}) {
                for (int n : new int[] {-1, 0, 61}) {
                    boolean isSort = sort >= 0 && sort <= 4;
                    int want = first(tape == 6 ? NONE : 0, sort == -2 || sort == 5 ? BAD : 0,
                            isSort && n == 61 ? BAD : 0, isSort && n == -1 ? SIZE : 1);
                    due("tape(" + tape + ", " + sort + ", " + n + ")", new RefusedTwice().tape(tape, sort, n), want);
                }
            }
        }
    }

    @Holds(promise = 30, says = FIRST)
    void item() {
        for (int tape : new int[] {0, 1, 6}) {
            for (int i : new int[] {-1, 0, 2}) {
                RefusedTwice x = new RefusedTwice();
                x.tape(0, 2, 2);
                int want = first(tape == 6 ? NONE : 0, tape == 1 ? NOTHING : 0, i == 0 ? 1 : PLACE);
                due("item(" + tape + ", " + i + ", 5)", x.item(tape, i, 5), want);
            }
        }
    }

    @Holds(promise = 32, says = FIRST)
    void shift() {
        // 0 and 1 are ints, 2 is bytes, 3 holds nothing, 6 is none
        int[] tapes = {0, 1, 2, 3, 6};
        for (int one : tapes) {
            for (int other : tapes) {
                for (int n : new int[] {1, 3, -1}) {
                    RefusedTwice x = new RefusedTwice();
                    x.tape(0, 2, 2);
                    x.tape(1, 2, 2);
                    x.tape(2, 0, 2);
                    int want = first(one == 6 || other == 6 ? NONE : 0, one == 3 || other == 3 ? NOTHING : 0,
                            (one == 2) != (other == 2) ? CAST : 0, n == 1 ? 1 : PLACE);
                    due("shift(" + one + ", 0, " + other + ", 0, " + n + ")", x.shift(one, 0, other, 0, n), want);
                }
            }
        }
    }
}
