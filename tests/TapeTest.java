/** Promises 29 to 32: tapes, their items, and items that come from one to another. */
public final class TapeTest {
    private static final Check CHECK = new Check();
    private static final long NO = RefusedTwice.NO;

    private static void due(String call, long got, long want) {
        CHECK.due(call, got, want);
    }

    public static void main(String[] args) {
        taping();
        items();
        narrowing();
        shiftRefusals();
        shifting();
        CHECK.end();
    }

    private static void taping() {
        RefusedTwice x = new RefusedTwice();
        due("NONE", x.tape(6, 0, 1), -1);
        due("NONE below", x.tape(-1, 0, 1), -1);
        due("NONE ahead of BAD", x.tape(6, 5, 61), -1);
        due("BAD: sort", x.tape(0, 5, 1), -2);
        due("BAD: sort below", x.tape(0, -2, 1), -2);
        due("BAD ahead of SIZE", x.tape(0, 5, -1), -2);
        due("BAD: n", x.tape(0, 0, 61), -2);
        due("SIZE", x.tape(0, 0, -1), -14);
        due("SIZE", x.tape(0, 4, Integer.MIN_VALUE), -14);
        due("nothing is there", x.item(0, 0, 1), -11);
        due("of 60", x.tape(0, 3, 60), 1);
        due("item 59", x.item(0, 59, 7), 1);
        due("item 60", x.item(0, 60, 7), -13);
        due("read 59", x.read(0, 59), 7);
        due("read 60", x.read(0, 60), NO);
        due("refused, it stays", x.tape(0, 3, 61), -2);
        due("read 59", x.read(0, 59), 7);
        x.item(0, 0, 8);
        due("of 60 anew", x.tape(0, 3, 60), 1);
        due("all 0", x.read(0, 59), 0);
        due("all 0", x.read(0, 0), 0);
        due("of 0", x.tape(0, 2, 0), 1);
        due("read of none", x.read(0, 0), NO);
        due("item of none", x.item(0, 0, 1), -13);
        due("holds nothing", x.tape(0, -1, 99), 1);
        due("item of nothing", x.item(0, 0, 1), -11);
        due("nothing, n below 0", x.tape(5, -1, -9), 1);
        due("tape 5 of 1", x.tape(5, 1, 1), 1);
        due("its item", x.read(5, 0), 0);
    }

    private static void items() {
        RefusedTwice x = new RefusedTwice();
        x.tape(2, 2, 3);
        due("NONE", x.item(6, 0, 1), -1);
        due("NONE below", x.item(-1, 0, 1), -1);
        due("NOTHING", x.item(1, 0, 1), -11);
        due("NOTHING, no such place", x.item(1, -1, 1), -11);
        due("PLACE", x.item(2, 3, 1), -13);
        due("PLACE below", x.item(2, -1, 1), -13);
        due("item 2", x.item(2, 2, 5), 1);
        due("read 2", x.read(2, 2), 5);
        due("read 1", x.read(2, 1), 0);
        due("NO: tape", x.read(6, 0), NO);
        due("NO: tape below", x.read(-1, 0), NO);
        due("NO: nothing there", x.read(1, 0), NO);
        due("NO: place", x.read(2, 3), NO);
        due("NO: place below", x.read(2, -1), NO);
    }

    private static void narrowing() {
        RefusedTwice x = new RefusedTwice();
        long[] v = {0, 1, 127, 128, 200, 256, 40000, 65536, 70000, 3000000000L, 4294967296L, -1, -129, NO, Long.MAX_VALUE};
        for (int sort = 0; sort <= 4; sort++) {
            x.tape(sort, sort, 1);
            for (long n : v) {
                long[] want = {(byte) n, (short) n, (int) n, n, n != 0 ? 1 : 0};
                due("item of sort " + sort, x.item(sort, 0, n), 1);
                due("item of sort " + sort + " from " + n, x.read(sort, 0), want[sort]);
            }
        }
    }

    private static void shiftRefusals() {
        RefusedTwice x = new RefusedTwice();
        x.tape(0, 0, 5);
        x.tape(1, 0, 3);
        x.tape(2, 1, 5);
        due("NONE", x.shift(6, 0, 0, 0, 1), -1);
        due("NONE", x.shift(0, 0, -1, 0, 1), -1);
        due("NONE ahead of NOTHING", x.shift(3, 0, 6, 0, 1), -1);
        due("NOTHING", x.shift(3, 0, 0, 0, 1), -11);
        due("NOTHING", x.shift(0, 0, 3, 0, 1), -11);
        due("NOTHING, whatever the places", x.shift(0, -1, 3, 0, -1), -11);
        due("CAST", x.shift(0, 0, 2, 0, 1), -12);
        due("CAST, whatever the places", x.shift(2, -1, 0, 9, -1), -12);
        due("PLACE: n", x.shift(0, 0, 1, 0, -1), -13);
        due("PLACE: i", x.shift(0, -1, 1, 0, 1), -13);
        due("PLACE: j", x.shift(0, 0, 1, -1, 1), -13);
        due("PLACE: the end of one", x.shift(0, 3, 1, 0, 3), -13);
        due("PLACE: the end of the other", x.shift(0, 0, 1, 1, 3), -13);
        due("PLACE: beyond, of none", x.shift(0, 6, 1, 0, 0), -13);
        due("PLACE: beyond, of none", x.shift(0, 0, 1, 4, 0), -13);
        due("PLACE: most", x.shift(0, Integer.MAX_VALUE, 1, 0, 1), -13);
        due("PLACE: most", x.shift(0, 0, 1, Integer.MAX_VALUE, Integer.MAX_VALUE), -13);
        due("none at the ends", x.shift(0, 5, 1, 3, 0), 0);
        due("to the ends", x.shift(0, 2, 1, 0, 3), 3);
    }

    private static long[] items(RefusedTwice x, int tape, int n) {
        long[] all = new long[n];
        for (int i = 0; i < n; i++) {
            all[i] = x.read(tape, i);
        }
        return all;
    }

    private static RefusedTwice five() {
        RefusedTwice x = new RefusedTwice();
        x.tape(0, 2, 5);
        x.tape(1, 2, 5);
        for (int i = 0; i < 5; i++) {
            x.item(0, i, i + 1);
        }
        return x;
    }

    private static void shifting() {
        RefusedTwice x = five();
        due("to another", x.shift(0, 1, 1, 2, 3), 3);
        CHECK.dueRow("the other", items(x, 1, 5), 0, 0, 2, 3, 4);
        CHECK.dueRow("the one stays", items(x, 0, 5), 1, 2, 3, 4, 5);
        due("to the same, upwards", x.shift(0, 0, 0, 1, 4), 4);
        CHECK.dueRow("as they all were before", items(x, 0, 5), 1, 1, 2, 3, 4);
        x = five();
        due("to the same, downwards", x.shift(0, 1, 0, 0, 4), 4);
        CHECK.dueRow("as they all were before", items(x, 0, 5), 2, 3, 4, 5, 5);
    }
}
