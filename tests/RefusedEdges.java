import java.util.List;
import java.util.function.Supplier;
import java.util.function.ToLongFunction;

/** What is refused, and what is asked, changes nothing: behind it all is answered as without it. */
final class RefusedEdges extends Edges {
    private static final String REFUSED = "What is answered so changes nothing;";
    private static final String ASKED = "what is asked changes nothing.";

    private void leaves(String call, Supplier<RefusedTwice> town, ToLongFunction<RefusedTwice> does) {
        List<Long> without = Towns.all(town.get());
        RefusedTwice x = town.get();
        does.applyAsLong(x);
        List<Long> behind = Towns.all(x);
        due(call + ": how many answers", behind.size(), without.size());
        for (int i = 0; i < Math.min(without.size(), behind.size()); i++) {
            due("answer " + i + " behind " + call, behind.get(i), without.get(i));
        }
    }

    private void refused(int want, String call, ToLongFunction<RefusedTwice> does) {
        Supplier<RefusedTwice> town = want == FULL ? Towns::full : Towns::some;
        due(call, does.applyAsLong(town.get()), want);
        leaves(call, town, does);
    }

    private void asked(String call, ToLongFunction<RefusedTwice> does) {
        leaves(call, Towns::some, does);
    }

    @Holds(promise = 2, says = REFUSED)
    void one() {
        refused(NONE, "one(7, 0)", x -> x.one(7, 0));
        refused(BAD, "one(0, 10)", x -> x.one(0, 10));
        refused(FULL, "one(0, 0)", x -> x.one(0, 0));
    }

    @Holds(promise = 3, says = ASKED)
    void of() {
        refused(NONE, "of(3, 0)", x -> x.of(3, 0));
        refused(NONE, "of(0, 5)", x -> x.of(0, 5));
        for (int what = 0; what <= 4; what++) {
            int asked = what;
            asked("of(1, " + what + ")", x -> x.of(1, asked));
        }
    }

    @Holds(promise = 4, says = ASKED)
    void between() {
        refused(NONE, "between(0, 3, 4)", x -> x.between(0, 3, 4));
        refused(BAD, "between(0, 0, 4)", x -> x.between(0, 0, 4));
        for (int what = 0; what <= 5; what++) {
            int asked = what;
            asked("between(0, 2, " + what + ")", x -> x.between(0, 2, asked));
        }
    }

    @Holds(promise = 5, says = ASKED)
    void counts() {
        refused(NONE, "counts(0, 1, 4)", x -> x.counts(0, 1, 4));
        refused(BAD, "counts(1, 1, 0)", x -> x.counts(1, 1, 0));
        asked("counts(2, 0, 0)", x -> x.counts(2, 0, 0));
        asked("counts(0, 2, 3)", x -> x.counts(0, 2, 3));
    }

    @Holds(promise = 6, says = REFUSED)
    void refuse() {
        refused(NONE, "refuse(0, 3, 0)", x -> x.refuse(0, 3, 0));
        refused(NONE, "refuse(2, 0, 4)", x -> x.refuse(2, 0, 4));
        refused(BAD, "refuse(2, 2, 0)", x -> x.refuse(2, 2, 0));
        refused(NIL, "refuse(1, 2, 0) that does not COUNT", x -> x.refuse(1, 2, 0));
    }

    @Holds(promise = 7, says = REFUSED)
    void rowOf() {
        refused(NONE, "row(3, 2, 1)", x -> x.row(3, 2, 1));
        refused(NONE, "row(0, 4, 1)", x -> x.row(0, 4, 1));
        refused(BAD, "row(0, 2, 10)", x -> x.row(0, 2, 10));
        refused(STATE, "row(1, 2, 1)", x -> x.row(1, 2, 1));
    }

    @Holds(promise = 8, says = REFUSED)
    void feed() {
        refused(BAD, "feed(128)", x -> x.feed(128));
        refused(FULL, "feed(98)", x -> x.feed(98));
    }

    @Holds(promise = 9, says = REFUSED)
    void street() {
        refused(FULL, "street()", x -> x.street());
    }

    @Holds(promise = 10, says = ASKED)
    void told() {
        refused(NONE, "told(7)", x -> x.told(7));
        for (int what = 0; what <= 6; what++) {
            int asked = what;
            asked("told(" + what + ")", x -> x.told(asked));
        }
    }

    @Holds(promise = 11, says = REFUSED)
    void pass() {
        refused(BAD, "pass(61)", x -> x.pass(61));
        refused(BAD, "pass(-1)", x -> x.pass(-1));
        Supplier<RefusedTwice> late = () -> goes(kinds(LOUD, TOLD), 9999);
        due("pass(1) on day 9999", late.get().pass(1), STATE);
        leaves("pass(1) on day 9999", late, x -> x.pass(1));
    }

    @Holds(promise = 12, says = ASKED)
    void match() {
        refused(NONE, "match(1, 13)", x -> x.match(1, 13));
        refused(BAD, "match(31, 0)", x -> x.match(31, 0));
        asked("match(30, 0)", x -> x.match(30, 0));
        asked("match(30, 11)", x -> x.match(30, 11));
    }

    @Holds(promise = 13, says = REFUSED)
    void say() {
        refused(NONE, "say(3, 0, 0, 0, true)", x -> x.say(3, 0, 0, 0, true));
        refused(NONE, "say(0, 1, 4, 0, true)", x -> x.say(0, 1, 4, 0, true));
        refused(BAD, "say(1, 1, 0, 0, true)", x -> x.say(1, 1, 0, 0, true));
        refused(BAD, "say(0, 1, 0, 21, true)", x -> x.say(0, 1, 0, 21, true));
        refused(FULL, "say(1, 0, 0, 0, false)", x -> x.say(1, 0, 0, 0, false));
    }

    @Holds(promise = 14, says = ASKED)
    void wrong() {
        asked("wrong()", x -> x.wrong());
    }

    @Holds(promise = 15, says = ASKED)
    void can() {
        refused(NONE, "can(3, 0)", x -> x.can(3, 0));
        refused(NONE, "can(0, 2)", x -> x.can(0, 2));
        asked("can(0, 0)", x -> x.can(0, 0));
        asked("can(0, 1)", x -> x.can(0, 1));
    }

    @Holds(promise = 16, says = ASKED)
    void odds() {
        asked("odds(0, 0, 0)", x -> x.odds(0, 0, 0));
        asked("odds(1, 0, 0)", x -> x.odds(1, 0, 0));
        asked("odds(0, 2, 1)", x -> x.odds(0, 2, 1));
    }

    @Holds(promise = 17, says = ASKED)
    void mean() {
        asked("mean(2)", x -> x.mean(2));
        asked("mean(0)", x -> x.mean(0));
        asked("mean(1)", x -> x.mean(1));
    }

    @Holds(promise = 18, says = REFUSED)
    void plan() {
        refused(NONE, "plan(2, 10)", x -> x.plan(2, 10));
        refused(NONE, "plan(1, 30)", x -> x.plan(1, 30));
        refused(NONE, "plan(1, 14)", x -> x.plan(1, 14));
        refused(BAD, "plan(1, 220)", x -> x.plan(1, 220));
        refused(FULL, "plan(1, 10)", x -> x.plan(1, 10));
        refused(FULL, "plan(0, 0)", x -> x.plan(0, 0));
    }

    @Holds(promise = 19, says = ASKED)
    void ends() {
        refused(NONE, "ends(2)", x -> x.ends(2));
        asked("ends(0)", x -> x.ends(0));
        asked("ends(1)", x -> x.ends(1));
    }

    @Holds(promise = 20, says = REFUSED)
    void book() {
        refused(NONE, "book(3, 0, 0)", x -> x.book(3, 0, 0));
        refused(BAD, "book(1, 1, 0)", x -> x.book(1, 1, 0));
        refused(BAD, "book(0, 1, 3)", x -> x.book(0, 1, 3));
        refused(FULL, "book(1, 2, 2)", x -> x.book(1, 2, 2));
    }

    @Holds(promise = 21, says = ASKED)
    void looked() {
        asked("looked()", x -> x.looked());
    }

    @Holds(promise = 22, says = ASKED)
    void judge() {
        refused(NONE, "judge(6, 0)", x -> x.judge(6, 0));
        refused(CAST, "judge(1, 0)", x -> x.judge(1, 0));
        asked("judge(0, 0)", x -> x.judge(0, 0));
        asked("judge(5, 0)", x -> x.judge(5, 0));
    }

    @Holds(promise = 24, says = REFUSED)
    void undo() {
        Supplier<RefusedTwice> noImage = () -> Check.people(6, 1, 5, 2);
        due("undo() without an image", noImage.get().undo(), STATE);
        leaves("undo() without an image", noImage, x -> x.undo());
    }

    @Holds(promise = 26, says = ASKED)
    void trace() {
        refused(NONE, "trace(12)", x -> x.trace(12));
        asked("trace(0)", x -> x.trace(0));
    }

    @Holds(promise = 27, says = ASKED)
    void taken() {
        refused(BAD, "taken(0, 7)", x -> x.taken(0, 7));
        refused(NOTHING, "taken(3, 0)", x -> x.taken(3, 0));
        refused(CAST, "taken(0, 5)", x -> x.taken(0, 5));
        asked("taken(0, 3)", x -> x.taken(0, 3));
    }

    @Holds(promise = 28, says = ASKED)
    void count() {
        refused(BAD, "count(7)", x -> x.count(7));
        for (int what = 0; what <= 6; what++) {
            int asked = what;
            asked("count(" + what + ")", x -> x.count(asked));
        }
    }

    @Holds(promise = 29, says = REFUSED)
    void tape() {
        refused(NONE, "tape(6, 0, 1)", x -> x.tape(6, 0, 1));
        refused(BAD, "tape(0, 5, 1)", x -> x.tape(0, 5, 1));
        refused(BAD, "tape(0, 0, 61)", x -> x.tape(0, 0, 61));
        refused(SIZE, "tape(0, 0, -1)", x -> x.tape(0, 0, -1));
    }

    @Holds(promise = 30, says = REFUSED)
    void item() {
        refused(NONE, "item(6, 0, 7)", x -> x.item(6, 0, 7));
        refused(NOTHING, "item(5, 0, 7)", x -> x.item(5, 0, 7));
        refused(PLACE, "item(0, 3, 7)", x -> x.item(0, 3, 7));
        refused(PLACE, "item(0, -1, 7)", x -> x.item(0, -1, 7));
    }

    @Holds(promise = 31, says = ASKED)
    void read() {
        asked("read(0, 0)", x -> x.read(0, 0));
        asked("read(0, 3)", x -> x.read(0, 3));
        asked("read(5, 0)", x -> x.read(5, 0));
        asked("read(6, 0)", x -> x.read(6, 0));
    }

    @Holds(promise = 32, says = REFUSED)
    void shift() {
        refused(NONE, "shift(0, 0, 6, 0, 1)", x -> x.shift(0, 0, 6, 0, 1));
        refused(NOTHING, "shift(0, 0, 5, 0, 1)", x -> x.shift(0, 0, 5, 0, 1));
        refused(CAST, "shift(0, 0, 1, 0, 1)", x -> x.shift(0, 0, 1, 0, 1));
        refused(PLACE, "shift(0, 1, 3, 0, 3)", x -> x.shift(0, 1, 3, 0, 3));
        refused(PLACE, "shift(0, 0, 3, 1, 3)", x -> x.shift(0, 0, 3, 1, 3));
    }
}
