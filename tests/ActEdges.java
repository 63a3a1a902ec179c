/** The edges of promises 25 to 28: ACTS and their BODIES where numbers wrap, THE TRACE, who is taken for whom, counts. */
final class ActEdges extends Edges {
    private static final int SHUNS = 0, SCOFFS = 1, TELLS = 2;
    private static final int[] ENDS = {0, 1, -1, 6, MOST, MOST - 1, LEAST, LEAST + 1, 1 << 30, -(1 << 30), MOST / 3,
        MOST / 3 + 1, LEAST / 3, LEAST / 3 - 1};

    /** A person of a KIND, number 5, v 9. */
    private static RefusedTwice last(int kind) {
        return Check.people(0, 0, 0, 0, 0, 0, 0, 0, 0, 0, kind, 9);
    }

    /** The BODIES that ran are these, and no others. */
    private void ran(String act, RefusedTwice x, int... bodies) {
        due(act + ", count(6)", x.count(6), bodies.length);
        for (int i = 0; i < bodies.length; i++) {
            due(act + ", trace(" + i + ")", x.trace(i), bodies[i]);
        }
        due(act + ", trace behind these", x.trace(bodies.length), NONE);
    }

    // ---- promise 25: bodies, of number 5 with v 9

    @Holds(promise = 25, says = "BODIES: ONE: 10 shuns: x + i. 11 scoffs: shuns(x) - v. 12 tells: scoffs(x) * 2.")
    void ofOne() {
        RefusedTwice one = last(ONE);
        for (int x : ENDS) {
            due("shuns " + x, one.act(5, SHUNS, x), x + 5);
            ran("shuns", one, 10);
            due("scoffs " + x, one.act(5, SCOFFS, x), x + 5 - 9);
            ran("scoffs", one, 11, 10);
            due("tells " + x, one.act(5, TELLS, x), (x + 5 - 9) * 2);
            ran("tells", one, 12, 11, 10);
        }
        due("shuns of 0", last(ONE).act(0, SHUNS, MOST), MOST);
        due("shuns of 1", last(ONE).act(1, SHUNS, MOST), LEAST);
    }

    @Holds(promise = 25, says = "KIND: 20 scoffs: super.scoffs(x) ^ 6.")
    void ofKind() {
        RefusedTwice kind = last(KIND);
        for (int x : ENDS) {
            due("shuns " + x, kind.act(5, SHUNS, x), x + 5);
            ran("shuns", kind, 10);
            due("scoffs " + x, kind.act(5, SCOFFS, x), (x + 5 - 9) ^ 6);
            ran("scoffs", kind, 20, 11, 10);
            due("tells " + x, kind.act(5, TELLS, x), ((x + 5 - 9) ^ 6) * 2);
            ran("tells", kind, 12, 20, 11, 10);
        }
    }

    @Holds(promise = 25, says = "SCORNER: 30 shuns: super.shuns(x * 3).")
    void ofScorner() {
        RefusedTwice scorner = last(SCORNER);
        for (int x : ENDS) {
            due("shuns " + x, scorner.act(5, SHUNS, x), x * 3 + 5);
            ran("shuns", scorner, 30, 10);
            due("scoffs " + x, scorner.act(5, SCOFFS, x), x * 3 + 5 - 9);
            ran("scoffs", scorner, 11, 30, 10);
            due("tells " + x, scorner.act(5, TELLS, x), (x * 3 + 5 - 9) * 2);
            ran("tells", scorner, 12, 11, 30, 10);
        }
    }

    @Holds(promise = 25, says = "MUTE: 40 tells: super.tells(x) + scoffs(1).")
    void ofMute() {
        RefusedTwice mute = last(MUTE);
        for (int x : ENDS) {
            due("shuns " + x, mute.act(5, SHUNS, x), x + 5);
            ran("shuns", mute, 10);
            due("scoffs " + x, mute.act(5, SCOFFS, x), x + 5 - 9);
            ran("scoffs", mute, 11, 10);
            due("tells " + x, mute.act(5, TELLS, x), (x + 5 - 9) * 2 + (1 + 5 - 9));
            ran("tells", mute, 40, 12, 11, 10, 11, 10);
        }
    }

    @Holds(promise = 25, says = "SHY: 50 shuns: -super.shuns(x). 51 scoffs: super.scoffs(x + 1).")
    void ofShy() {
        RefusedTwice shy = last(SHY);
        for (int x : ENDS) {
            due("shuns " + x, shy.act(5, SHUNS, x), -(x + 5));
            ran("shuns", shy, 50, 10);
            due("scoffs " + x, shy.act(5, SCOFFS, x), (-(x + 1 + 5) - 9) ^ 6);
            ran("scoffs", shy, 51, 20, 11, 50, 10);
            due("tells " + x, shy.act(5, TELLS, x), ((-(x + 1 + 5) - 9) ^ 6) * 2);
            ran("tells", shy, 12, 51, 20, 11, 50, 10);
        }
        due("shuns what becomes the least", shy.act(5, SHUNS, LEAST - 5), LEAST);
    }

    @Holds(promise = 25, says = "LOUD: 60 tells: super.tells(x - i).")
    void ofLoud() {
        RefusedTwice loud = last(LOUD);
        for (int x : ENDS) {
            due("shuns " + x, loud.act(5, SHUNS, x), x * 3 + 5);
            ran("shuns", loud, 30, 10);
            due("scoffs " + x, loud.act(5, SCOFFS, x), x * 3 + 5 - 9);
            ran("scoffs", loud, 11, 30, 10);
            due("tells " + x, loud.act(5, TELLS, x), ((x - 5) * 3 + 5 - 9) * 2);
            ran("tells", loud, 60, 12, 11, 30, 10);
        }
    }

    @Holds(promise = 25, says = "TOLD: 70 scoffs: super.scoffs(x) + super.shuns(2). 71 shuns: super.shuns(x) ^ v.")
    void ofTold() {
        RefusedTwice told = last(TOLD);
        for (int x : ENDS) {
            due("shuns " + x, told.act(5, SHUNS, x), (x + 5) ^ 9);
            ran("shuns", told, 71, 10);
            due("scoffs " + x, told.act(5, SCOFFS, x), ((x + 5) ^ 9) - 9 + 7);
            ran("scoffs", told, 70, 11, 71, 10, 10);
            int scoffsOne = ((1 + 5) ^ 9) - 9 + 7;
            due("tells " + x, told.act(5, TELLS, x), (((x + 5) ^ 9) - 9 + 7) * 2 + scoffsOne);
            ran("tells", told, 40, 12, 70, 11, 71, 10, 10, 70, 11, 71, 10, 10);
        }
    }

    @Holds(promise = 25, says = "shuns(..) and so on: the body of its KIND, or, if that has none, of the next KIND above that has one;")
    void theNextKindAbove() {
        int[][] first = {{10, 11, 12}, {10, 20, 12}, {30, 11, 12}, {10, 11, 40}, {50, 51, 12}, {30, 11, 60},
            {71, 70, 40}};
        for (int kind = 0; kind <= 6; kind++) {
            RefusedTwice x = last(kind);
            for (int act = 0; act <= 2; act++) {
                x.act(5, act, 3);
                due("act " + act + " of KIND " + kind + ", trace(0)", x.trace(0), first[kind][act]);
            }
        }
    }

    @Holds(promise = 25, says = "super.shuns(..): so from the KIND above the body's on;")
    void aboveTheBodysKind() {
        RefusedTwice told = last(TOLD);
        due("no 71 in super.shuns(2)", told.act(5, SCOFFS, 0), (5 ^ 9) - 9 + 7);
        RefusedTwice loud = last(LOUD);
        loud.act(5, TELLS, 0);
        due("super.tells of LOUD", loud.trace(1), 12);
    }

    @Holds(promise = 25, says = "all that stands in a body is done from the left on.")
    void fromTheLeftOn() {
        RefusedTwice x = last(MUTE);
        x.act(5, TELLS, 0);
        due("super.tells ahead of scoffs", x.trace(1), 12);
        due("scoffs behind it", x.trace(4), 11);
    }

    @Holds(promise = 25, says = "ACTS of one with x (wrapping): 0 shuns, 1 scoffs, 2 tells; i its number.")
    void ofTheFirstAndTheLast() {
        RefusedTwice x = sixLoud();
        for (int i = 0; i < 6; i++) {
            due("shuns of " + i, x.act(i, SHUNS, 10), 30 + i);
            due("scoffs of " + i, x.act(i, SCOFFS, 10), 30 + i);
            due("tells of " + i, x.act(i, TELLS, 10), ((10 - i) * 3 + i) * 2);
        }
    }

    @Holds(promise = 25, says = "An ACT (0 shuns, 1 scoffs, 2 tells) of one with x.")
    void threeActs() {
        RefusedTwice x = last(KIND);
        due("shuns", x.act(5, 0, 0), 5);
        due("scoffs", x.act(5, 1, 0), -4 ^ 6);
        due("tells", x.act(5, 2, 0), (-4 ^ 6) * 2);
    }

    @Holds(promise = 25, says = "0, and no TRACE then: no such one, act.")
    void noSuchOneOrAct() {
        RefusedTwice x = last(TOLD);
        for (int bad : new int[] {-1, 6, LEAST, MOST}) {
            x.act(5, TELLS, 1);
            due("act(" + bad + ", 0, 7)", x.act(bad, 0, 7), 0);
            ran("no such one", x);
        }
        for (int bad : new int[] {-1, 3, LEAST, MOST}) {
            x.act(5, TELLS, 1);
            due("act(5, " + bad + ", 7)", x.act(5, bad, 7), 0);
            ran("no such act", x);
        }
        due("of nobody", new RefusedTwice().act(0, 0, 7), 0);
    }

    // ---- promise 26

    @Holds(promise = 26, says = "THE TRACE: the numbers of the bodies that ran in the latest act(), as they began; the first 20 are kept.")
    void theLatestActAlone() {
        RefusedTwice x = last(TOLD);
        ran("no act", x);
        x.act(5, TELLS, 1);
        ran("the longest", x, 40, 12, 70, 11, 71, 10, 10, 70, 11, 71, 10, 10);
        x.act(0, SHUNS, 1);
        ran("the shortest", x, 10);
        x.act(5, SCOFFS, 1);
        ran("another", x, 70, 11, 71, 10, 10);
    }

    @Holds(promise = 26, says = "THE TRACE's i-th body.")
    void firstAndLastBody() {
        RefusedTwice x = last(TOLD);
        x.act(5, TELLS, 1);
        due("trace(0)", x.trace(0), 40);
        due("trace(11)", x.trace(11), 10);
        due("asked again", x.trace(0), 40);
    }

    @Holds(promise = 26, says = "NONE.")
    void noSuchBody() {
        RefusedTwice x = last(TOLD);
        x.act(5, TELLS, 1);
        for (int i : new int[] {-1, 12, 19, 20, 21, LEAST, MOST}) {
            due("trace(" + i + ")", x.trace(i), NONE);
        }
        due("no act", new RefusedTwice().trace(0), NONE);
    }

    // ---- promise 27

    @Holds(promise = 27, says = "are of KINDS: 0 ONE; 1 KIND, 2 SCORNER, 3 MUTE under ONE; 4 SHY under KIND; 5 LOUD under SCORNER; 6 TOLD under MUTE;")
    void whoIsUnderWhom() {
        String[] takenFor = {"0", "01", "02", "03", "014", "025", "036"};
        for (int kind = 0; kind <= 6; kind++) {
            for (int k = 0; k <= 6; k++) {
                boolean is = takenFor[kind].contains("" + k);
                due("KIND " + kind + " taken for " + k, last(kind).taken(5, k), is ? kind : CAST);
            }
        }
    }

    @Holds(promise = 27, says = "One taken for one of KIND k (0 .. 6), or one under that: its KIND.")
    void leastAndGreatestKind() {
        due("taken(5, 0)", last(ONE).taken(5, 0), 0);
        due("taken(5, 6)", last(TOLD).taken(5, 6), 6);
        due("taken(5, 0)", last(TOLD).taken(5, 0), 6);
    }

    @Holds(promise = 27, says = "BAD: k;")
    void noSuchKind() {
        for (int k : new int[] {-1, 7, LEAST, MOST}) {
            due("taken(5, " + k + ")", last(ONE).taken(5, k), BAD);
        }
    }

    @Holds(promise = 27, says = "NOTHING: no such one;")
    void noSuchOne() {
        RefusedTwice x = kinds(ONE, ONE);
        for (int person : new int[] {-1, 2, 6, LEAST, MOST}) {
            for (int k = 0; k <= 6; k++) {
                due("taken(" + person + ", " + k + ")", x.taken(person, k), NOTHING);
            }
        }
    }

    @Holds(promise = 27, says = "NOTHING: no such one; CAST.")
    void oneAboveIsNotTakenForOneUnder() {
        due("KIND for SHY", last(KIND).taken(5, SHY), CAST);
        due("ONE for KIND", last(ONE).taken(5, KIND), CAST);
        due("SHY for SCORNER", last(SHY).taken(5, SCORNER), CAST);
    }

    // ---- promise 28

    @Holds(promise = 28, says = "How many: 0 PEOPLE, 1 STREETS, 2 rows of SAID, 3 of the PLAN, 4 of the BOOK, 5 bytes of THE TEXT,")
    void noneOrAll() {
        RefusedTwice none = new RefusedTwice();
        RefusedTwice all = Towns.full();
        int[] most = {6, 6, 5, 10, 8, 100};
        for (int what = 0; what <= 5; what++) {
            due("count(" + what + ") of none", none.count(what), 0);
            due("count(" + what + ") of all", all.count(what), most[what]);
        }
    }

    @Holds(promise = 28, says = "6 bodies that ran in the latest act() (all, kept or not).")
    void bodiesThatRan() {
        RefusedTwice x = last(TOLD);
        due("no act", x.count(6), 0);
        x.act(5, TELLS, 1);
        due("the most", x.count(6), 12);
        x.act(5, SHUNS, 1);
        due("the latest alone", x.count(6), 2);
        x.act(6, SHUNS, 1);
        due("no such one", x.count(6), 0);
    }

    @Holds(promise = 28, says = "BAD.")
    void noSuchCount() {
        for (int what : new int[] {-1, 7, LEAST, MOST}) {
            due("count(" + what + ")", sixLoud().count(what), BAD);
        }
    }
}
