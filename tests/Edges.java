/** What the tests of the document's boundary cases share: each stands by itself, on objects of its own. */
abstract class Edges {
    static final int MOST = Integer.MAX_VALUE, LEAST = Integer.MIN_VALUE;
    static final int ONE = 0, KIND = 1, SCORNER = 2, MUTE = 3, SHY = 4, LOUD = 5, TOLD = 6;
    static final int NONE = -1, BAD = -2, STATE = -3, FULL = -4, NIL = -5;
    static final int NOTHING = -11, CAST = -12, PLACE = -13, SIZE = -14;
    static final long NO = Long.MIN_VALUE;

    private Check check;

    void answersTo(Check check) {
        this.check = check;
    }

    void due(String call, long got, long want) {
        check.due(call, got, want);
    }

    /** People of such KINDS, each with v 0. */
    static RefusedTwice kinds(int... kinds) {
        RefusedTwice x = new RefusedTwice();
        for (int kind : kinds) {
            x.one(kind, 0);
        }
        return x;
    }

    static RefusedTwice sixLoud() {
        return kinds(LOUD, LOUD, LOUD, LOUD, LOUD, LOUD);
    }

    /** Days go, as few calls as may be. */
    static RefusedTwice goes(RefusedTwice x, int days) {
        for (int left = days; left > 0; left -= 60) {
            x.pass(Math.min(left, 60));
        }
        return x;
    }

    /** On days 0 and 1, each row {one, other, tally} of loud people comes to its tally; day 2 is then. */
    static RefusedTwice comesTo(RefusedTwice x, int[]... rows) {
        for (int day = 0; day < 2; day++) {
            for (int[] row : rows) {
                if (row[2] > day) {
                    x.refuse(row[0], row[1], day);
                }
            }
            x.pass(1);
        }
        return x;
    }

    static int[] row(int... numbers) {
        return numbers;
    }

    static int reads(RefusedTwice x, String text) {
        return Check.reads(x, text);
    }

    /** The words (as bits) by which a NO would count today. */
    static int counting(RefusedTwice x, int one, int other) {
        int words = 0;
        for (int word = 0; word < 4; word++) {
            words |= x.counts(one, other, word) == 1 ? 1 << word : 0;
        }
        return words;
    }

    /** TALLY, USED and LAST of one to another are these. */
    void bond(String when, RefusedTwice x, int one, int other, int tally, int used, int last) {
        String two = ": " + one + " to " + other + ", ";
        due(when + two + "TALLY", x.between(one, other, 0), tally);
        due(when + two + "USED", x.between(one, other, 1), used);
        due(when + two + "LAST", x.between(one, other, 2), last);
    }
}
