import java.util.ArrayList;
import java.util.List;

/** Objects in which there is something of all, and all that can be asked of one. */
final class Towns {
    private Towns() {
    }

    /** As many of all as there can be; THE TEXT is no STREET. */
    static RefusedTwice full() {
        RefusedTwice x = Check.people(6, 1, 5, 2, 5, 3, 5, 4, 5, 5, 5, 6);
        for (int i = 0; i < 6; i++) {
            Check.reads(x, "begin 0");
        }
        Check.feeds(x, "x".repeat(100));
        for (int i = 0; i < 5; i++) {
            x.say(1, 0, i % 4, i, true);
        }
        for (int i = 0; i < 10; i++) {
            x.plan(1, i % 2 == 0 ? 120 : 320);
        }
        for (int i = 0; i < 8; i++) {
            x.book(1, 2, i / 7);
        }
        return x;
    }

    /** Something of all, and room for more: three PEOPLE, two of whom are WED; THE IMAGE is of a day before. */
    static RefusedTwice some() {
        RefusedTwice x = Check.people(6, 3, 5, 4, 5, 7);
        x.row(0, 2, 5);
        x.row(0, 3, 1);
        Check.reads(x, "deaf 1 w=1;begin 2");
        x.pass(2);
        x.refuse(1, 2, 1);
        x.refuse(2, 1, 0);
        x.refuse(0, 1, 3);
        x.say(1, 2, 0, 1, true);
        x.plan(1, 210);
        x.book(1, 2, 1);
        x.image();
        x.pass(1);
        x.refuse(0, 1, 3);
        x.refuse(1, 0, 2);
        x.refuse(1, 2, 2);
        x.refuse(2, 1, 3);
        x.say(0, 1, 3, 4, false);
        x.plan(0, 0);
        x.plan(1, 103);
        x.book(2, 1, 0);
        tapes(x);
        x.act(0, 2, 5);
        Check.feeds(x, "begin");
        return x;
    }

    private static void tapes(RefusedTwice x) {
        x.tape(0, 0, 3);
        x.item(0, 0, -5);
        x.item(0, 1, 2);
        x.item(0, 2, 1);
        x.tape(1, 2, 3);
        x.item(1, 2, 70000);
        x.tape(2, 4, 2);
        x.item(2, 1, 1);
        x.tape(3, 0, 3);
        x.item(3, 0, 9);
    }

    /** What one answers to all that can be asked; it is not as it was then. */
    static List<Long> all(RefusedTwice x) {
        List<Long> all = new ArrayList<>();
        for (int i = 0; i <= 6; i++) {
            all.add((long) x.count(i));
            all.add((long) x.told(i));
        }
        for (int i = 0; i < 13; i++) {
            all.add((long) x.trace(i));
        }
        for (int i = 0; i < 18; i++) {
            all.add(x.read(i / 3, i % 3));
        }
        people(x, all);
        rows(x, all);
        all.add((long) x.street());
        Check.feeds(x, "begin 9");
        all.add((long) x.street());
        all.add((long) x.told(1));
        all.add((long) x.undo());
        all.add((long) x.told(1));
        people(x, all);
        return all;
    }

    private static void people(RefusedTwice x, List<Long> all) {
        int people = x.count(0);
        all.add((long) people);
        all.add((long) x.told(0));
        for (int i = 0; i < people; i++) {
            for (int what = 0; what <= 2; what++) {
                all.add((long) x.of(i, what));
            }
            for (int j = 0; j < people; j++) {
                for (int what = 0; what <= (i == j ? -1 : 2); what++) {
                    all.add((long) x.between(i, j, what));
                }
            }
        }
    }

    private static void rows(RefusedTwice x, List<Long> all) {
        for (int i = 0; i < x.count(0); i++) {
            all.add((long) x.can(i, 0));
            for (int part = 0; part <= (x.of(i, 0) == 6 ? 3 : -1); part++) {
                all.add((long) x.row(i, part, 0));
            }
        }
        all.add((long) x.wrong());
        all.add((long) x.looked());
        all.add((long) x.ends(0));
        all.add((long) x.ends(1));
    }
}
