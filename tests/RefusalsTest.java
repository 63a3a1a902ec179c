/** Promises 5 and 6: by kind and street, which no counts, what it does, and when all is undone. */
public final class RefusalsTest {
    private static final Check CHECK = new Check();

    private static void due(String call, long got, long want) {
        CHECK.due(call, got, want);
    }

    public static void main(String[] args) {
        wrongInputs();
        kinds();
        shys();
        tolds();
        unlikeDays();
        undone();
        wedOncePerPerson();
        notWedAnewByItself();
        ahead();
        CHECK.end();
    }

    private static void wrongInputs() {
        RefusedTwice x = Check.people(0, 1, 5, 2);
        int[][] none = {{2, 0, 0}, {0, 2, 0}, {-1, 0, 0}, {0, -1, 0}, {0, 1, 4}, {0, 1, -1}, {1, 1, 4}, {2, 2, 0}};
        for (int[] n : none) {
            due("counts NONE", x.counts(n[0], n[1], n[2]), -1);
            due("refuse NONE", x.refuse(n[0], n[1], n[2]), -1);
        }
        due("counts BAD", x.counts(1, 1, 0), -2);
        due("refuse BAD", x.refuse(1, 1, 0), -2);
        due("tallies behind refusals", x.told(3), 0);
    }

    /** Which words count (as bits) of person 0 to person 1. */
    private static int counting(RefusedTwice x) {
        int words = 0;
        for (int w = 0; w < 4; w++) {
            words |= x.counts(0, 1, w) << w;
        }
        return words;
    }

    private static void kinds() {
        // v 6: a SHY one never counts by word 2
        int[] onEven = {15, 15, 15, 8, 11, 15, 0};
        int[] onOdd = {15, 0, 15, 8, 0, 15, 0};
        int[] usedOnEven = {14, 14, 15, 8, 10, 15, 0};
        for (int kind = 0; kind < 7; kind++) {
            RefusedTwice x = Check.people(kind, 6, 0, 0);
            due("even day, kind " + kind, counting(x), onEven[kind]);
            x.pass(1);
            due("odd day, kind " + kind, counting(x), onOdd[kind]);
            x.pass(1);
            int first = x.refuse(0, 1, 0);
            due("refuse by word 0, kind " + kind, first, kind == 3 || kind == 6 ? -5 : 1);
            due("used, kind " + kind, x.between(0, 1, 1), first == 1 ? 1 : 0);
            x.pass(2);
            due("word 0 used, kind " + kind, counting(x), usedOnEven[kind]);
            // deaf to word 1 on this street
            Check.reads(x, "deaf 1 w=1");
            due("deaf to 1, kind " + kind, counting(x), kind == 5 ? 15 : usedOnEven[kind] & ~2);
            Check.reads(x, "deaf 1 w<4");
            due("deaf to all, kind " + kind, counting(x), kind == 5 ? 15 : 0);
        }
    }

    private static void shys() {
        for (int v = 0; v < 10; v++) {
            RefusedTwice x = Check.people(4, v, 0, 0);
            due("shy, v " + v, counting(x), 15 & ~(1 << v % 4));
        }
    }

    private static void tolds() {
        RefusedTwice x = Check.people(6, 1, 0, 0);
        x.row(0, 1, 5);
        x.row(0, 2, 1);
        for (int day = 0; day < 8; day++) {
            due("told, day " + day, counting(x), day % 4 == 1 || day % 4 == 2 ? 8 : 0);
            x.pass(1);
        }
        x.pass(1);
        due("refuse by 2", x.refuse(0, 1, 2), -5);
        due("refuse by 3", x.refuse(0, 1, 3), 1);
        x.pass(1);
        due("refuse by 3 anew", x.refuse(0, 1, 3), 2);
    }

    private static void unlikeDays() {
        RefusedTwice x = Check.people(5, 0, 0, 0, 0, 0);
        due("day 0", x.refuse(0, 1, 1), 1);
        due("on the same day, loud or not", x.refuse(0, 1, 2), -5);
        due("used", x.between(0, 1, 1), 2);
        due("to another on the same day", x.refuse(0, 2, 2), 1);
        due("the other way on the same day", x.refuse(1, 0, 1), 1);
        x.pass(1);
        due("what does not count changes nothing", x.refuse(1, 0, 1), -5);
        due("last", x.between(1, 0, 2), 0);
        due("tally", x.between(1, 0, 0), 1);
        due("an unlike word", x.refuse(1, 0, 3), 2);
        due("used", x.between(1, 0, 1), 10);
    }

    private static void undone() {
        RefusedTwice x = Check.people(0, 0, 0, 0);
        due("0 to 1", x.refuse(0, 1, 0), 1);
        due("1 to 0", x.refuse(1, 0, 3), 1);
        x.pass(1);
        due("0 to 1", x.refuse(0, 1, 1), 2);
        due("not wed yet", x.of(0, 2), -5);
        due("1 to 0", x.refuse(1, 0, 2), 2);
        due("wed", x.of(0, 2), 1);
        due("wed", x.of(1, 2), 0);
        x.pass(1);
        due("a used word undoes nothing", x.refuse(0, 1, 1), -5);
        due("still wed", x.of(1, 2), 0);
        due("a third", x.refuse(0, 1, 2), 0);
        for (int i = 0; i < 2; i++) {
            due("tally", x.between(i, 1 - i, 0), 0);
            due("used", x.between(i, 1 - i, 1), 0);
            due("wed to nobody", x.of(i, 2), -5);
        }
        due("last of who undid", x.between(0, 1, 2), 2);
        due("last of the other", x.between(1, 0, 2), 1);
        due("the other may begin today", x.refuse(1, 0, 2), 1);
        due("who undid not today", x.refuse(0, 1, 2), -5);
        x.pass(1);
        due("by any word", x.refuse(0, 1, 2), 1);
    }

    private static void wedOncePerPerson() {
        RefusedTwice x = Check.people(5, 0, 5, 0, 5, 0);
        for (int day = 0; day < 2; day++) {
            for (int i = 0; i < 3; i++) {
                x.refuse(i, (i + 1) % 3, 0);
                x.refuse((i + 1) % 3, i, 0);
            }
            x.pass(1);
        }
        due("0 is wed to 1", x.of(0, 2), 1);
        due("1 is wed to 0", x.of(1, 2), 0);
        due("2 is wed to nobody", x.of(2, 2), -5);
        due("2 of 2", x.between(1, 2, 0) + x.between(2, 1, 0), 4);
        due("2 undoes with 1", x.refuse(2, 1, 0), 0);
        due("0 and 1 stay wed", x.of(1, 2), 0);
        due("1 to 2 is undone, too", x.between(1, 2, 0), 0);
        due("2 to 0 is not", x.between(2, 0, 0), 2);
    }

    private static void notWedAnewByItself() {
        RefusedTwice x = Check.people(5, 0, 5, 0, 5, 0);
        for (int day = 0; day < 2; day++) {
            x.refuse(0, 1, 0);
            x.refuse(1, 0, 0);
            x.refuse(0, 2, 0);
            x.refuse(2, 0, 0);
            x.pass(1);
        }
        due("0 is wed to 1", x.of(0, 2), 1);
        due("undone", x.refuse(1, 0, 0), 0);
        due("0 is not wed to 2 by that", x.of(0, 2), -5);
        due("though twice refused either way", x.between(0, 2, 0) + x.between(2, 0, 0), 4);
        due("await of these is 0", x.between(0, 2, 5), 0);
    }

    private static void ahead() {
        RefusedTwice x = Check.people(5, 0, 0, 0);
        Check.reads(x, "begin 3;loud 1 p=0;begin 2");
        due("ahead of day begin, loud or not", x.refuse(0, 1, 0), -5);
        x.pass(1);
        due("ahead of it", x.counts(1, 0, 0), 0);
        x.pass(1);
        due("on it", x.counts(1, 0, 0), 1);
        due("on it", x.refuse(0, 1, 0), 1);
    }
}
