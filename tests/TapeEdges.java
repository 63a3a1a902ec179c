/** The edges of promises 29 to 32: TAPES, their items, and what is shifted. */
final class TapeEdges extends Edges {
    private static final int BYTES = 0, SHORTS = 1, INTS = 2, LONGS = 3, BOOLEANS = 4;
    private static final int[] NO_TAPE = {-1, 6, LEAST, MOST};

    private static RefusedTwice taped(int sort, int n) {
        RefusedTwice x = new RefusedTwice();
        x.tape(0, sort, n);
        return x;
    }

    /** Tape 0 and 1 are rows of n ints; tape 0 has 1, 2, .. */
    private static RefusedTwice counted(int n, int other) {
        RefusedTwice x = taped(INTS, n);
        x.tape(1, INTS, other);
        for (int i = 0; i < n; i++) {
            x.item(0, i, i + 1);
        }
        return x;
    }

    private void items(String when, RefusedTwice x, int tape, int... items) {
        for (int i = 0; i < items.length; i++) {
            due(when + ", item " + i, x.read(tape, i), items[i]);
        }
        due(when + ", behind its end", x.read(tape, items.length), NO);
    }

    // ---- promise 29

    @Holds(promise = 29, says = "TAPES 0 .. 5 hold nothing (at first),")
    void nothingAtFirst() {
        RefusedTwice x = new RefusedTwice();
        for (int tape = 0; tape <= 5; tape++) {
            due("item(" + tape + ", 0, 1)", x.item(tape, 0, 1), NOTHING);
            due("read(" + tape + ", 0)", x.read(tape, 0), NO);
            due("tape(" + tape + ", 2, 1)", x.tape(tape, INTS, 1), 1);
            due("item(" + tape + ", 0, 1)", x.item(tape, 0, 10 + tape), 1);
        }
        for (int tape = 0; tape <= 5; tape++) {
            due("read(" + tape + ", 0)", x.read(tape, 0), 10 + tape);
        }
    }

    @Holds(promise = 29, says = "or a row of 0 bytes, 1 shorts, 2 ints, 3 longs, 4 booleans (items 0, 1).")
    void eachSort() {
        long[] ones = {-1, -1, -1, -1, 1};
        long[] most = {-1, -1, -1, Long.MAX_VALUE, 1};
        long[] least = {0, 0, 0, NO, 1};
        for (int sort = 0; sort <= 4; sort++) {
            RefusedTwice x = taped(sort, 1);
            item(x, -1, ones[sort]);
            item(x, Long.MAX_VALUE, most[sort]);
            item(x, NO, least[sort]);
            item(x, 1, 1);
            item(x, 0, 0);
        }
    }

    private void item(RefusedTwice x, long v, long read) {
        due("item(0, 0, " + v + ")", x.item(0, 0, v), 1);
        due("read(0, 0) of " + v, x.read(0, 0), read);
    }

    @Holds(promise = 29, says = "A TAPE becomes a row of n (0 .. 60) of a sort, all 0,")
    void noneOrSixtyItems() {
        for (int sort = 0; sort <= 4; sort++) {
            RefusedTwice x = new RefusedTwice();
            due("of 60", x.tape(5, sort, 60), 1);
            for (int i = 0; i < 60; i++) {
                due("item " + i, x.read(5, i), 0);
            }
            due("item 60", x.read(5, 60), NO);
            x.item(5, 0, 1);
            x.item(5, 59, 1);
            due("of 60 again", x.tape(5, sort, 60), 1);
            due("item 0", x.read(5, 0), 0);
            due("item 59", x.read(5, 59), 0);
            due("of none", x.tape(5, sort, 0), 1);
            due("item 0", x.read(5, 0), NO);
            due("item 0 of none", x.item(5, 0, 1), PLACE);
            due("of 1", x.tape(5, sort, 1), 1);
            due("item 1", x.read(5, 1), NO);
        }
    }

    @Holds(promise = 29, says = "or holds nothing (sort -1: n does not matter): 1.")
    void nothingAgain() {
        for (int n : new int[] {0, 60, 61, -1, LEAST, MOST}) {
            RefusedTwice x = taped(LONGS, 2);
            due("tape(0, -1, " + n + ")", x.tape(0, -1, n), 1);
            due("read(0, 0)", x.read(0, 0), NO);
            due("item(0, 0, 1)", x.item(0, 0, 1), NOTHING);
        }
        due("what holds nothing anyway", new RefusedTwice().tape(3, -1, 5), 1);
    }

    @Holds(promise = 29, says = "NONE: tape;")
    void noSuchTape() {
        for (int tape : NO_TAPE) {
            due("tape(" + tape + ", 0, 1)", new RefusedTwice().tape(tape, 0, 1), NONE);
            due("tape(" + tape + ", -1, 1)", new RefusedTwice().tape(tape, -1, 1), NONE);
        }
    }

    @Holds(promise = 29, says = "BAD: sort, n above 60;")
    void noSuchSortOrTooMany() {
        RefusedTwice x = taped(BYTES, 2);
        x.item(0, 1, 5);
        for (int sort : new int[] {-2, 5, LEAST, MOST}) {
            due("tape(0, " + sort + ", 1)", x.tape(0, sort, 1), BAD);
        }
        for (int sort = 0; sort <= 4; sort++) {
            due("tape(0, " + sort + ", 61)", x.tape(0, sort, 61), BAD);
            due("tape(0, " + sort + ", most)", x.tape(0, sort, MOST), BAD);
        }
        due("it is as it was", x.read(0, 1), 5);
    }

    @Holds(promise = 29, says = "SIZE (-14): a size below 0.")
    void sizeBelowZero() {
        RefusedTwice x = taped(BYTES, 2);
        x.item(0, 1, 5);
        for (int sort = 0; sort <= 4; sort++) {
            due("tape(0, " + sort + ", -1)", x.tape(0, sort, -1), SIZE);
            due("tape(0, " + sort + ", least)", x.tape(0, sort, LEAST), SIZE);
        }
        due("it is as it was", x.read(0, 1), 5);
    }

    @Holds(promise = 29, says = "SIZE.")
    void sizeOfNone() {
        due("-1", new RefusedTwice().tape(0, INTS, -1), SIZE);
        due("0", new RefusedTwice().tape(0, INTS, 0), 1);
    }

    // ---- promise 30

    @Holds(promise = 30, says = "Item i of a TAPE becomes v (its lowest bits, as many as an item has;")
    void lowestBits() {
        long[] v = {127, 128, 255, 256, -128, -129, 32767, 32768, 65535, 65536, -32768, -32769, 2147483647L,
            2147483648L, 4294967295L, 4294967296L, -2147483648L, -2147483649L, Long.MAX_VALUE, NO, -1, 0};
        long[] bytes = {127, -128, -1, 0, -128, 127, -1, 0, -1, 0, 0, -1, -1, 0, -1, 0, 0, -1, -1, 0, -1, 0};
        long[] shorts = {127, 128, 255, 256, -128, -129, 32767, -32768, -1, 0, -32768, 32767, -1, 0, -1, 0, 0, -1, -1,
            0, -1, 0};
        long[] ints = {127, 128, 255, 256, -128, -129, 32767, 32768, 65535, 65536, -32768, -32769, 2147483647L,
            -2147483648L, -1, 0, -2147483648L, 2147483647L, -1, 0, -1, 0};
        long[][] read = {bytes, shorts, ints, v};
        for (int sort = 0; sort <= 3; sort++) {
            RefusedTwice x = taped(sort, 1);
            for (int i = 0; i < v.length; i++) {
                item(x, v[i], read[sort][i]);
            }
        }
    }

    @Holds(promise = 30, says = "booleans: whether v is not 0): 1.")
    void booleansOfAnyNumber() {
        RefusedTwice x = taped(BOOLEANS, 1);
        for (long v : new long[] {1, -1, 2, 256, 65536, 4294967296L, NO, Long.MAX_VALUE}) {
            item(x, v, 1);
            item(x, 0, 0);
        }
    }

    @Holds(promise = 30, says = "NONE; NOTHING; PLACE.")
    void noSuchItem() {
        RefusedTwice x = taped(INTS, 3);
        for (int tape : NO_TAPE) {
            due("item(" + tape + ", 0, 1)", x.item(tape, 0, 1), NONE);
        }
        for (int i : new int[] {0, -1, 60, LEAST, MOST}) {
            due("item(1, " + i + ", 1)", x.item(1, i, 1), NOTHING);
        }
        for (int i : new int[] {-1, 3, 59, 60, LEAST, MOST}) {
            due("item(0, " + i + ", 1)", x.item(0, i, 1), PLACE);
        }
        items("behind these", x, 0, 0, 0, 0);
        due("the first place", x.item(0, 0, 7), 1);
        due("the last place", x.item(0, 2, 9), 1);
        items("behind these", x, 0, 7, 0, 9);
    }

    @Holds(promise = 30, says = "The host's refusals: NOTHING (-11): nothing is there;")
    void nothingIsThere() {
        RefusedTwice x = taped(INTS, 0);
        due("a row of none is there", x.item(0, 0, 1), PLACE);
        x.tape(0, -1, 0);
        due("nothing is there", x.item(0, 0, 1), NOTHING);
    }

    // ---- promise 31

    @Holds(promise = 31, says = "Item i of a TAPE.")
    void firstAndLastItem() {
        RefusedTwice x = counted(60, 0);
        due("read(0, 0)", x.read(0, 0), 1);
        due("read(0, 59)", x.read(0, 59), 60);
    }

    @Holds(promise = 31, says = "NO: no such TAPE, nothing there, no such place.")
    void noItem() {
        RefusedTwice x = counted(3, 0);
        for (int tape : NO_TAPE) {
            due("read(" + tape + ", 0)", x.read(tape, 0), NO);
        }
        for (int i : new int[] {-1, 3, 59, 60, LEAST, MOST}) {
            due("read(0, " + i + ")", x.read(0, i), NO);
            due("read(2, " + i + ")", x.read(2, i), NO);
        }
        due("read(1, 0) of none", x.read(1, 0), NO);
        due("read(2, 0) of nothing", x.read(2, 0), NO);
    }

    // ---- promise 32

    @Holds(promise = 32, says = "n items of a TAPE from i on come to another one (or the same) from j on,")
    void noneSomeOrAll() {
        RefusedTwice x = counted(4, 4);
        due("none", x.shift(0, 0, 1, 0, 0), 0);
        items("none", x, 1, 0, 0, 0, 0);
        due("two", x.shift(0, 2, 1, 1, 2), 2);
        items("two", x, 1, 0, 3, 4, 0);
        items("they stay", x, 0, 1, 2, 3, 4);
        due("all", x.shift(0, 0, 1, 0, 4), 4);
        items("all", x, 1, 1, 2, 3, 4);
        RefusedTwice sixty = counted(60, 60);
        due("sixty", sixty.shift(0, 0, 1, 0, 60), 60);
        due("the last of sixty", sixty.read(1, 59), 60);
    }

    @Holds(promise = 32, says = "as they all were before: n.")
    void ontoTheSame() {
        RefusedTwice x = counted(5, 0);
        due("upwards", x.shift(0, 0, 0, 1, 4), 4);
        items("upwards", x, 0, 1, 1, 2, 3, 4);
        due("downwards", x.shift(0, 1, 0, 0, 4), 4);
        items("downwards", x, 0, 1, 2, 3, 4, 4);
        due("onto itself", x.shift(0, 0, 0, 0, 5), 5);
        items("onto itself", x, 0, 1, 2, 3, 4, 4);
    }

    @Holds(promise = 32, says = "NONE: tapes;")
    void noSuchTapes() {
        RefusedTwice x = counted(3, 3);
        for (int tape : NO_TAPE) {
            due("shift(" + tape + ", 0, 0, 0, 1)", x.shift(tape, 0, 0, 0, 1), NONE);
            due("shift(0, 0, " + tape + ", 0, 1)", x.shift(0, 0, tape, 0, 1), NONE);
        }
    }

    @Holds(promise = 32, says = "NOTHING;")
    void nothingToShift() {
        RefusedTwice x = counted(3, 3);
        due("of nothing", x.shift(2, 0, 0, 0, 1), NOTHING);
        due("to nothing", x.shift(0, 0, 2, 0, 1), NOTHING);
        due("of nothing to nothing", x.shift(2, 0, 3, 0, 0), NOTHING);
        due("of nothing to the same", x.shift(2, 0, 2, 0, 0), NOTHING);
        due("none of nothing", x.shift(2, 0, 0, 0, 0), NOTHING);
    }

    @Holds(promise = 32, says = "CAST: of unlike sorts;")
    void unlikeSorts() {
        for (int one = 0; one <= 4; one++) {
            for (int other = 0; other <= 4; other++) {
                RefusedTwice x = taped(one, 2);
                x.tape(1, other, 2);
                x.item(0, 0, 1);
                due(one + " to " + other, x.shift(0, 0, 1, 0, 2), one == other ? 2 : CAST);
                due("the item then", x.read(1, 0), one == other ? 1 : 0);
                due("none of " + one + " to " + other, x.shift(0, 0, 1, 0, 0), one == other ? 0 : CAST);
            }
        }
    }

    @Holds(promise = 32, says = "CAST (-12): another sort or KIND; PLACE (-13): no such place;")
    void unlikeSortsOfNoItems() {
        RefusedTwice x = taped(BYTES, 0);
        x.tape(1, SHORTS, 0);
        due("no items of unlike sorts", x.shift(0, 0, 1, 0, 0), CAST);
        due("no items of one sort", x.shift(0, 0, 0, 0, 0), 0);
        due("one of no items", x.shift(0, 0, 0, 0, 1), PLACE);
    }

    @Holds(promise = 32, says = "PLACE: n, i or j is below 0, or beyond either's end.")
    void noSuchPlaces() {
        RefusedTwice x = counted(4, 3);
        int[][] places = {{-1, 0, 1}, {0, -1, 1}, {0, 0, -1}, {-1, 0, 0}, {0, -1, 0}, {-1, -1, -1}, {5, 0, 0},
            {0, 4, 0}, {4, 0, 1}, {0, 3, 1}, {2, 0, 3}, {0, 1, 3}, {0, 0, 4}, {0, 0, 5}, {MOST, 0, 0}, {0, MOST, 0},
            {0, 0, MOST}, {1, 0, MOST}, {0, 1, MOST}, {MOST, MOST, MOST}, {MOST, 0, 1}, {0, MOST, 1}, {MOST, 0, 2},
            {LEAST, 0, 0}, {0, LEAST, 0}, {0, 0, LEAST}, {LEAST, LEAST, LEAST}, {1, 0, LEAST}, {LEAST, 0, MOST}};
        for (int[] p : places) {
            due("shift(0, " + p[0] + ", 1, " + p[1] + ", " + p[2] + ")", x.shift(0, p[0], 1, p[1], p[2]), PLACE);
        }
        items("behind these", x, 0, 1, 2, 3, 4);
        items("behind these", x, 1, 0, 0, 0);
        due("none at both ends", x.shift(0, 4, 1, 3, 0), 0);
        due("up to both ends", x.shift(0, 3, 1, 2, 1), 1);
        due("as many as the other has", x.shift(0, 1, 1, 0, 3), 3);
        items("behind these", x, 1, 2, 3, 4);
    }
}
