/** Promises 10, 11, 12 and 4's word, twice and await: days, how soon two can be wed, near pairs, walls, matches. */
public final class AskedTest {
    private static final Check CHECK = new Check();

    private static void due(String call, long got, long want) {
        CHECK.due(call, got, want);
    }

    public static void main(String[] args) {
        days();
        words();
        twice();
        twiceOnStreets();
        beyondTheLastDay();
        await();
        near();
        walls();
        matchNumbers();
        matches();
        matchOfWed();
        CHECK.end();
    }

    private static void days() {
        RefusedTwice x = new RefusedTwice();
        due("told(-1)", x.told(-1), -1);
        due("told(7)", x.told(7), -1);
        due("pass(-1)", x.pass(-1), -2);
        due("pass(61)", x.pass(61), -2);
        due("told(0)", x.told(0), 0);
        due("pass(0)", x.pass(0), 0);
        due("pass(60)", x.pass(60), 60);
        for (int day = 120; day <= 9960; day += 60) {
            due("pass(60)", x.pass(60), day);
        }
        due("pass(40) to 10000", x.pass(40), -3);
        due("pass(61) there", x.pass(61), -2);
        due("pass(39) to 9999", x.pass(39), 9999);
        due("pass(1)", x.pass(1), -3);
        due("pass(0)", x.pass(0), 9999);
        due("told(0)", x.told(0), 9999);
    }

    private static void words() {
        RefusedTwice x = Check.people(4, 0, 5, 0, 3, 0, 0, 0);
        due("shy with v 0", x.between(0, 1, 3), 1);
        due("loud", x.between(1, 0, 3), 0);
        due("mute", x.between(2, 0, 3), 3);
        x.pass(1);
        due("shy on an odd day", x.between(0, 1, 3), -5);
        Check.reads(x, "deaf 1 w<2");
        due("one on a deaf street", x.between(3, 0, 3), 2);
        due("loud there", x.between(1, 0, 3), 0);
    }

    /** TWICE of a new one of a kind, from a day on. */
    private static int twiceOf(int kind, int day) {
        RefusedTwice x = Check.people(kind, 1, 0, 0);
        x.row(0, 2, 1);
        x.pass(day);
        return x.between(0, 1, 4);
    }

    private static void twice() {
        int[][] due = {{1, 1, 1, 1}, {2, 3, 2, 3}, {1, 1, 1, 1}, {1, 1, 1, 1}, {2, 3, 2, 3}, {1, 1, 1, 1}, {6, 5, 4, 7}};
        for (int kind = 0; kind < 7; kind++) {
            for (int day = 0; day < 4; day++) {
                due("twice of kind " + kind + " from day " + day, twiceOf(kind, day), due[kind][day]);
            }
        }
        RefusedTwice x = Check.people(0, 0, 0, 0, 6, 0);
        due("told without rows", x.between(2, 0, 4), -5);
        x.refuse(0, 1, 0);
        due("one more, not today", x.between(0, 1, 4), 1);
        x.pass(1);
        due("one more, today", x.between(0, 1, 4), 0);
        Check.reads(x, "deaf 1 w=0&d=1|w>0&d<3");
        due("one more, by word 1 on day 3", x.between(0, 1, 4), 2);
        Check.reads(x, "loud 1 p=0");
        x.refuse(0, 1, 1);
        due("it is 2", x.between(0, 1, 4), 0);
        x.refuse(1, 0, 2);
        x.pass(1);
        Check.reads(x, "deaf 1 w>0");
        due("one more, by word 0 alone", x.between(1, 0, 4), 0);
        due("what is asked changes nothing", x.told(0), 2);
        due("tally", x.between(0, 1, 0), 2);
    }

    private static void twiceOnStreets() {
        RefusedTwice x = Check.people(0, 0, 3, 0, 2, 0, 5, 0);
        Check.reads(x, "deaf 1 w>0");
        due("one word alone heard, it wants two", x.between(0, 1, 4), -5);
        due("mute, whose word is not heard", x.between(1, 0, 4), -5);
        due("scorner, who wants one", x.between(2, 0, 4), 1);
        Check.reads(x, "deaf 1 d<9;deaf 1 !w=0&!w=3");
        due("heard each tenth day by two words", x.between(0, 1, 4), 19);
        x.pass(9);
        due("from such a day on", x.between(0, 1, 4), 10);
        due("mute, likewise", x.between(1, 0, 4), 10);
        due("loud, whatever", x.between(3, 0, 4), 1);
        Check.reads(x, "begin 38;deaf 1 d<9&p=2");
        due("from begin on", x.between(0, 1, 4), 30);
        due("loud, too", x.between(3, 0, 4), 30);
        due("scorner", x.between(2, 0, 4), -5);
        x.pass(1);
        due("from begin on", x.between(0, 1, 4), 29);
        x.pass(9);
        due("day 19", x.between(2, 0, 4), 30);
        // the first word by which it can be said is of use for the second: word 1 first, or the second never comes
        Check.reads(x, "deaf 1 w>1;deaf 1 w=1&!d=0;deaf 1 w=0&!d=0&!d=1");
        x.pass(1);
        due("day 20: word 1, then word 0", x.told(0), 20);
        due("word 1, then word 0", x.between(0, 1, 4), 1);
    }

    private static void beyondTheLastDay() {
        RefusedTwice x = Check.people(1, 0, 0, 0);
        for (int i = 0; i < 166; i++) {
            x.pass(60);
        }
        x.pass(39);
        due("day", x.told(0), 9999);
        due("on days 10000 and 10002", x.between(0, 1, 4), 3);
    }

    private static void await() {
        RefusedTwice x = Check.people(0, 0, 1, 0, 6, 0, 5, 0);
        due("the more, of 1 and 2", x.between(0, 1, 5), 2);
        due("the more, of 2 and 1", x.between(1, 0, 5), 2);
        due("either is none", x.between(0, 2, 5), -5);
        due("either is none", x.between(2, 0, 5), -5);
        for (int day = 0; day < 2; day++) {
            x.refuse(0, 3, day);
            x.refuse(3, 0, day);
            x.pass(1);
        }
        due("wed", x.of(0, 2), 3);
        due("await of wed", x.between(0, 3, 5), -5);
        due("await with one wed", x.between(0, 1, 5), -5);
        due("await with the other wed", x.between(1, 3, 5), -5);
        due("twice with one wed", x.between(0, 1, 4), 1);
    }

    /** Makes the tally of one to another, by days of loud people. */
    private static void makes(RefusedTwice x, int[][] tallies) {
        for (int day = 0; day < 2; day++) {
            for (int[] t : tallies) {
                if (t[2] > day) {
                    x.refuse(t[0], t[1], day);
                }
            }
            x.pass(1);
        }
    }

    private static RefusedTwice six() {
        return Check.people(5, 0, 5, 1, 5, 2, 5, 3, 5, 4, 5, 5);
    }

    private static void near() {
        RefusedTwice x = six();
        due("none near", x.told(4), 0);
        due("none near", x.told(5), -5);
        due("no wall", x.told(6), 0);
        makes(x, new int[][] {{5, 3, 2}, {3, 5, 1}, {2, 4, 1}, {4, 2, 2}, {0, 1, 2}, {1, 2, 1}, {2, 1, 1}});
        due("near: 3 and 5, 2 and 4", x.told(4), 2);
        due("first near", x.told(5), 24);
        due("wall: 2 and 3", x.told(6), 12);
        due("tallies", x.told(3), 10);
        due("wed", x.told(2), 0);
        x.refuse(2, 4, 0);
        due("2 and 4 are wed", x.told(2), 2);
        due("wed are not near", x.told(4), 1);
        due("first near", x.told(5), 35);
        due("wall: 3", x.told(6), 8);
        x.refuse(4, 2, 0);
        due("undone", x.told(2), 0);
        due("near", x.told(4), 1);
        x.pass(1);
        makes(x, new int[][] {{1, 4, 2}, {4, 1, 2}, {1, 5, 2}, {5, 1, 1}});
        due("1 and 4 are wed", x.told(2), 2);
        due("one wed is near nobody", x.told(4), 1);
    }

    private static void walls() {
        RefusedTwice star = six();
        makes(star, new int[][] {{5, 0, 2}, {0, 5, 1}, {5, 2, 1}, {2, 5, 2}, {5, 4, 2}, {4, 5, 1}});
        due("near in a star", star.told(4), 3);
        due("first in a star", star.told(5), 5);
        due("who is in the midst", star.told(6), 32);
        RefusedTwice two = six();
        makes(two, new int[][] {{1, 2, 1}, {2, 1, 2}, {4, 5, 1}, {5, 4, 2}});
        due("first near of neighbours", two.told(5), 12);
        due("wall of two pairs", two.told(6), 18);
        RefusedTwice ring = six();
        makes(ring, new int[][] {{0, 1, 2}, {1, 0, 1}, {1, 2, 2}, {2, 1, 1}, {2, 3, 2}, {3, 2, 1}, {3, 0, 2}, {0, 3, 1}});
        due("near in a ring", ring.told(4), 4);
        due("wall of a ring of four", ring.told(6), 5);
        RefusedTwice all = six();
        int[][] pairs = new int[30][];
        int n = 0;
        for (int i = 0; i < 6; i++) {
            for (int j = i + 1; j < 6; j++) {
                pairs[n++] = new int[] {i, j, 2};
                pairs[n++] = new int[] {j, i, 1};
            }
        }
        makes(all, pairs);
        due("near, all to all", all.told(4), 15);
        due("wall, all to all", all.told(6), 31);
    }

    private static void matchNumbers() {
        RefusedTwice x = Check.people(0, 0, 0, 0, 0, 0);
        int[] none = {-1, 1, 9, 13, 16, Integer.MAX_VALUE, Integer.MIN_VALUE};
        for (int what : none) {
            due("match(5, " + what + ")", x.match(5, what), -1);
            due("NONE ahead of BAD: match(31, " + what + ")", x.match(31, what), -1);
        }
        due("match(-1, 0)", x.match(-1, 0), -2);
        due("match(31, 12)", x.match(31, 12), -2);
        due("match(30, 12)", x.match(30, 12), -5);
        due("match(0, 0)", x.match(0, 0), 0);
        due("match(1, 0)", x.match(1, 0), 1);
        due("match of nobody", new RefusedTwice().match(5, 0), 0);
        due("match of nobody with one", new RefusedTwice().match(5, 10), -1);
    }

    private static long[] mates(RefusedTwice x, int n) {
        long[] row = new long[x.count(0) + 1];
        row[0] = x.match(n, 0);
        for (int p = 0; p < row.length - 1; p++) {
            row[p + 1] = x.match(n, 10 + p);
        }
        return row;
    }

    private static void matches() {
        RefusedTwice x = Check.people(0, 0, 0, 0, 0, 0, 0, 0, 0, 0);
        CHECK.dueRow("five of a kind", mates(x, 1), 2, 1, 0, 3, 2, -5);
        CHECK.dueRow("today none", mates(x, 0), 0, -5, -5, -5, -5, -5);
        // 0 to 1 by twos, 0 to 2 and 1 to 3 alone by fives: taking 0 with 1 would leave one pair fewer
        RefusedTwice y = Check.people(0, 0, 0, 0, 0, 0, 0, 0);
        Check.reads(y, "deaf 1 p=2&q>0;deaf 1 p=3&!q=1;deaf 1 q=2&!p=0;deaf 1 q=3&!p=1");
        CHECK.dueRow("the most pairs", mates(y, 1), 2, 2, 3, 0, 1);
        // whoever comes first takes the first, even where the last goes without
        RefusedTwice z = Check.people(0, 0, 6, 0, 0, 0);
        CHECK.dueRow("a told one is with nobody", mates(z, 30), 1, 2, -5, 0);
        // 0 can be with 4 alone
        RefusedTwice w = Check.people(0, 0, 0, 0, 0, 0, 0, 0, 0, 0);
        Check.reads(w, "deaf 1 p=0&q<4");
        CHECK.dueRow("0 with 4", mates(w, 1), 2, 4, 2, 1, -5, 0);
        RefusedTwice v = Check.people(0, 0, 0, 0, 0, 0, 0, 0, 0, 0, 0, 0);
        Check.reads(v, "deaf 1 p=2&q>2;deaf 1 p=3&q=5");
        CHECK.dueRow("0 with 2, or one pair fewer", mates(v, 1), 3, 2, 3, 0, 1, 5, 4);
        // who has a mate already is not counted on again
        RefusedTwice u = Check.people(0, 0, 0, 0, 0, 0, 0, 0, 0, 0);
        Check.reads(u, "deaf 1 p=0&(q=2|q=4)|p=1&q>1|p=3&q=4");
        CHECK.dueRow("0 with 1, then 2 with 3", mates(u, 1), 2, 1, 0, 3, 2, -5);
        // kinds on even days take longer
        RefusedTwice k = Check.people(1, 0, 0, 0, 0, 0);
        CHECK.dueRow("by day 1", mates(k, 1), 1, -5, 2, 1);
        CHECK.dueRow("by day 2", mates(k, 2), 1, 1, 0, -5);
    }

    private static void matchOfWed() {
        RefusedTwice x = six();
        makes(x, new int[][] {{0, 1, 2}, {1, 0, 2}});
        CHECK.dueRow("0 and 1 are wed", mates(x, 30), 2, -5, -5, 3, 2, 5, 4);
        due("nothing is changed", x.told(3), 4);
    }
}
