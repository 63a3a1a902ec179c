/** Promises 25 to 28: acts, their trace, who is taken for what, and counts. */
public final class ActTest {
    private static final Check CHECK = new Check();

    private static void due(String call, long got, long want) {
        CHECK.due(call, got, want);
    }

    public static void main(String[] args) {
        actsOfAll();
        wrapping();
        noAct();
        taken();
        counts();
        CHECK.end();
    }

    /** A person of a KIND, number 2, v 5. */
    private static RefusedTwice second(int kind) {
        return Check.people(0, 0, 0, 0, kind, 5);
    }

    private static void acts(int kind, int act, int x, int want, int... bodies) {
        RefusedTwice town = second(kind);
        String call = "act " + act + " of kind " + kind;
        due(call, town.act(2, act, x), want);
        due(call + ": how many bodies", town.count(6), bodies.length);
        for (int i = 0; i < bodies.length; i++) {
            due(call + ": body " + i, town.trace(i), bodies[i]);
        }
        due(call + ": behind its bodies", town.trace(bodies.length), -1);
        due(call + ": ahead of its bodies", town.trace(-1), -1);
    }

    private static void actsOfAll() {
        // ONE: shuns x + 2, scoffs x - 3, tells 2x - 6
        acts(0, 0, 10, 12, 10);
        acts(0, 1, 10, 7, 11, 10);
        acts(0, 2, 10, 14, 12, 11, 10);
        // KIND: scoffs 7 ^ 6 = 1
        acts(1, 0, 10, 12, 10);
        acts(1, 1, 10, 1, 20, 11, 10);
        acts(1, 2, 10, 2, 12, 20, 11, 10);
        // SCORNER: shuns 30 + 2
        acts(2, 0, 10, 32, 30, 10);
        acts(2, 1, 10, 27, 11, 30, 10);
        acts(2, 2, 10, 54, 12, 11, 30, 10);
        // MUTE: tells 14 + scoffs(1) = 14 - 2
        acts(3, 0, 10, 12, 10);
        acts(3, 1, 10, 7, 11, 10);
        acts(3, 2, 10, 12, 40, 12, 11, 10, 11, 10);
        // SHY: shuns -(10 + 2); scoffs: x 11: -(13) - 5 = -18; ^ 6 = -24
        acts(4, 0, 10, -12, 50, 10);
        acts(4, 1, 10, -24, 51, 20, 11, 50, 10);
        acts(4, 2, 10, -48, 12, 51, 20, 11, 50, 10);
        // LOUD: tells of x 8: (24 + 2 - 5) * 2
        acts(5, 0, 10, 32, 30, 10);
        acts(5, 1, 10, 27, 11, 30, 10);
        acts(5, 2, 10, 42, 60, 12, 11, 30, 10);
        // TOLD: shuns 12 ^ 5 = 9; scoffs 9 - 5 + 4 = 8; tells 16 + ((3 ^ 5) - 5 + 4) = 16 + 5
        acts(6, 0, 10, 9, 71, 10);
        acts(6, 1, 10, 8, 70, 11, 71, 10, 10);
        acts(6, 2, 10, 21, 40, 12, 70, 11, 71, 10, 10, 70, 11, 71, 10, 10);
    }

    private static void wrapping() {
        RefusedTwice x = Check.people(0, 9, 2, 9, 4, 9);
        due("x least, less v", x.act(0, 1, Integer.MIN_VALUE), Integer.MAX_VALUE - 8);
        due("x most, more i", x.act(1, 0, Integer.MAX_VALUE), Integer.MAX_VALUE - 1);
        due("times 2", x.act(0, 2, 1 << 30), -2147483648 - 18);
        due("less of the least", x.act(2, 0, Integer.MAX_VALUE - 1), Integer.MIN_VALUE);
    }

    private static void noAct() {
        RefusedTwice x = second(6);
        x.act(2, 2, 1);
        due("trace of none such", x.trace(12), -1);
        due("trace most", x.trace(Integer.MAX_VALUE), -1);
        due("no such one", x.act(3, 0, 1), 0);
        due("no trace then", x.trace(0), -1);
        due("no bodies then", x.count(6), 0);
        x.act(2, 0, 1);
        due("no such one", x.act(-1, 0, 1), 0);
        due("no trace then", x.count(6), 0);
        x.act(2, 0, 1);
        due("no such act", x.act(2, 3, 1), 0);
        due("no trace then", x.trace(0), -1);
        x.act(2, 0, 1);
        due("no such act", x.act(2, -1, 1), 0);
        due("no trace then", x.count(6), 0);
        x.act(2, 2, 1);
        x.act(2, 0, 1);
        due("the latest act alone", x.count(6), 2);
        due("its first", x.trace(0), 71);
    }

    private static void taken() {
        int[][] under = {{0}, {0, 1}, {0, 2}, {0, 3}, {0, 1, 4}, {0, 2, 5}, {0, 3, 6}};
        for (int kind = 0; kind < 7; kind++) {
            RefusedTwice x = second(kind);
            for (int k = 0; k < 7; k++) {
                boolean is = false;
                for (int u : under[kind]) {
                    is |= u == k;
                }
                due("taken for " + k + ", kind " + kind, x.taken(2, k), is ? kind : -12);
            }
            due("BAD", x.taken(2, 7), -2);
            due("BAD below", x.taken(2, -1), -2);
            due("NOTHING", x.taken(3, 0), -11);
            due("NOTHING below", x.taken(-1, 6), -11);
            due("BAD ahead of NOTHING", x.taken(3, 7), -2);
        }
    }

    private static void counts() {
        RefusedTwice x = Check.people(0, 0, 0, 0, 0, 0, 0, 0);
        Check.reads(x, "begin 1");
        Check.reads(x, "begin 1");
        Check.feeds(x, "begin 1");
        x.say(0, 1, 0, 0, true);
        for (int i = 0; i < 5; i++) {
            x.plan(0, 0);
            x.book(0, 1, 0);
        }
        x.book(0, 1, 0);
        x.act(0, 2, 0);
        long[] due = {4, 2, 1, 5, 6, 7, 3};
        for (int what = 0; what < 7; what++) {
            due("count(" + what + ")", x.count(what), due[what]);
        }
        due("count(7)", x.count(7), -2);
        due("count(-1)", x.count(-1), -2);
    }
}
