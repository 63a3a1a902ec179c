import java.util.ArrayList;
import java.util.List;

/** Long runs of calls, each answer held against the plain model's; every promise is met in them. */
public final class FuzzTest {
    // an object is used for 512 calls at most; a step makes up to eight, but for a text
    private static final int RUNS = 1500, MOST_CALLS = 512, CALLS = MOST_CALLS - 8;
    private static final int[] ODD = {-1, -2, 7, 10, 12, 60, 61, 99, 128, Integer.MAX_VALUE, Integer.MIN_VALUE};
    private static final long[] VALUES = {0, 1, -5, 3, 200, 70000, 9999999999L, Long.MIN_VALUE, 256, 65536, -1};

    private final RefusedTwice x = new RefusedTwice();
    private final Model m = new Model();
    private final List<String> calls = new ArrayList<>();
    private long seed;
    private boolean failed = false;
    private boolean hasImage = false;

    private FuzzTest(long seed) {
        this.seed = seed * 7919 + 17;
    }

    public static void main(String[] args) {
        for (int run = 0; run < RUNS; run++) {
            FuzzTest fuzz = new FuzzTest(run);
            fuzz.run(run);
            if (fuzz.failed) {
                System.out.println("run " + run + ":");
                for (String call : fuzz.calls) {
                    System.out.println("  " + call);
                }
                System.exit(1);
            }
        }
    }

    private int rnd(int n) {
        seed = seed * 6364136223846793005L + 1442695040888963407L;
        return (int) ((seed >>> 33) % n);
    }

    /** Most often 0 .. n - 1, at times an odd number. */
    private int arg(int n) {
        return rnd(25) == 0 ? ODD[rnd(ODD.length)] : rnd(25) == 0 ? n : rnd(n);
    }

    private void due(String call, long got, long want) {
        if (!failed) {
            calls.add(got == want ? call + " " + got : call + " answered " + got + ", the model " + want);
            failed = got != want;
        }
    }

    private void run(int run) {
        int people = run % 5 == 0 ? rnd(7) : 2 + rnd(5);
        int only = rnd(3) == 0 ? rnd(7) : -1;
        for (int i = 0; i < people; i++) {
            one(only >= 0 ? only : rnd(7), rnd(10));
        }
        if (rnd(3) > 0) {
            reads(street());
        }
        int focus = rnd(4);
        while (calls.size() < CALLS && !failed) {
            step(focus);
        }
    }

    private void step(int focus) {
        int pick = rnd(100);
        if (pick < 30) {
            lives(focus);
        } else if (pick < 55) {
            asks();
        } else if (pick < 70) {
            tellsByHand();
        } else if (pick < 85) {
            tapes();
        } else {
            others();
        }
    }

    private void one(int kind, int v) {
        due("one(" + kind + ", " + v + ")", x.one(kind, v), m.one(kind, v));
    }

    /** focus: the runs in which few speak, so that many are refused twice. */
    private void lives(int focus) {
        int most = focus == 0 ? 6 : 2 + focus / 2;
        switch (rnd(4)) {
            case 0: {
                int n = rnd(12) == 0 ? arg(61) : rnd(3);
                due("pass(" + n + ")", x.pass(n), m.pass(n));
                break;
            }
            case 1: {
                int p = arg(6), part = arg(4), n = arg(10);
                due("row(" + p + ", " + part + ", " + n + ")", x.row(p, part, n), m.row(p, part, n));
                break;
            }
            default: {
                int p = arg(most), q = arg(most), w = rnd(3) == 0 ? 3 : arg(4);
                due("refuse(" + p + ", " + q + ", " + w + ")", x.refuse(p, q, w), m.refuse(p, q, w));
                due("told(2)", x.told(2), m.told(2));
                break;
            }
        }
    }

    private void asks() {
        int p = arg(6), q = arg(6);
        switch (rnd(7)) {
            case 0: {
                int what = arg(5);
                due("of(" + p + ", " + what + ")", x.of(p, what), m.of(p, what));
                break;
            }
            case 1:
            case 2: {
                int what = arg(6);
                due("between(" + p + ", " + q + ", " + what + ")", x.between(p, q, what), m.between(p, q, what));
                break;
            }
            case 3: {
                int w = arg(4);
                due("counts(" + p + ", " + q + ", " + w + ")", x.counts(p, q, w), m.counts(p, q, w));
                break;
            }
            case 4: {
                int what = arg(7);
                due("told(" + what + ")", x.told(what), m.told(what));
                break;
            }
            case 5: {
                int n = rnd(3) == 0 ? arg(31) : rnd(7);
                int what = rnd(3) == 0 ? 0 : 10 + arg(6);
                due("match(" + n + ", " + what + ")", x.match(n, what), m.match(n, what));
                break;
            }
            default: {
                int part = arg(2);
                due("odds(" + p + ", " + q + ", " + part + ")", x.odds(p, q, part), m.odds(p, q, part));
                due("mean(" + part + ")", x.mean(part), m.mean(part));
                break;
            }
        }
    }

    private void tellsByHand() {
        int p = rnd(40) == 0 ? -1 : arg(6), q = arg(6), w = arg(4);
        switch (rnd(6)) {
            case 0: {
                int n = rnd(2) == 0 ? 0 : arg(21);
                boolean counted = rnd(2) == 0;
                due("say(" + p + ", " + q + ", " + w + ", " + n + ", " + counted + ")",
                        x.say(p, q, w, n, counted), m.say(p, q, w, n, counted));
                break;
            }
            case 1:
                due("wrong()", x.wrong(), m.wrong());
                break;
            case 2: {
                int what = arg(2);
                due("can(" + p + ", " + what + ")", x.can(p, what), m.can(p, what));
                break;
            }
            case 3: {
                int what = rnd(50) == 0 ? -1 : arg(2);
                int n = rnd(20) == 0 ? arg(1000) : rnd(30) == 0 ? -rnd(1000) : 100 * rnd(6) + 10 * rnd(6) + rnd(4);
                due("plan(" + what + ", " + n + ")", x.plan(what, n), m.plan(what, n));
                break;
            }
            case 4: {
                int what = arg(2);
                due("ends(" + what + ")", x.ends(what), m.ends(what));
                break;
            }
            default: {
                int tally = rnd(3) == 0 ? arg(3) : 0;
                due("book(" + p + ", " + q + ", " + tally + ")", x.book(p, q, tally), m.book(p, q, tally));
                due("looked()", x.looked(), m.looked());
                break;
            }
        }
    }

    private void tapes() {
        int t = arg(6), u = rnd(2) == 0 ? t : arg(6), i = arg(12), j = arg(12), n = arg(8);
        switch (rnd(7)) {
            case 0: {
                int sort = rnd(8) == 0 ? -1 : rnd(2) == 0 ? 0 : arg(5);
                int size = rnd(4) == 0 ? arg(61) : 6 + rnd(6);
                due("tape(" + t + ", " + sort + ", " + size + ")", x.tape(t, sort, size), m.tape(t, sort, size));
                break;
            }
            case 1:
            case 2: {
                long v = rnd(3) == 0 ? VALUES[rnd(VALUES.length)] : rnd(2) == 0 ? -5 : rnd(6);
                due("item(" + t + ", " + i + ", " + v + ")", x.item(t, i, v), m.item(t, i, v));
                break;
            }
            case 3:
                due("read(" + t + ", " + i + ")", x.read(t, i), m.read(t, i));
                break;
            case 4:
                due("shift(" + t + ", " + i + ", " + u + ", " + j + ", " + n + ")",
                        x.shift(t, i, u, j, n), m.shift(t, i, u, j, n));
                break;
            case 5:
                weds(t);
                break;
            default:
                due("judge(" + t + ", " + i + ")", x.judge(t, i), m.judge(t, i));
                break;
        }
    }

    /** A tape of with whom each is wed, so that it can be judged to its end. */
    private void weds(int t) {
        due("tape(" + t + ", 0, 8)", x.tape(t, 0, 8), m.tape(t, 0, 8));
        for (int p = 0; p < 6; p++) {
            int wed = m.of(p, 2);
            due("item(" + t + ", " + (p + 1) + ", " + wed + ")", x.item(t, p + 1, wed), m.item(t, p + 1, wed));
        }
        due("judge(" + t + ", 1)", x.judge(t, 1), m.judge(t, 1));
    }

    private void others() {
        int p = arg(6);
        switch (rnd(9)) {
            case 0:
                one(arg(7), arg(10));
                break;
            case 1:
                due("image()", x.image(), m.image());
                hasImage = true;
                break;
            case 2:
                if (rnd(3) == 0 || !hasImage) {
                    due("undo()", x.undo(), m.undo());
                }
                break;
            case 3: {
                int act = arg(3), n = rnd(3) == 0 ? ODD[rnd(ODD.length)] : rnd(100) - 50;
                due("act(" + p + ", " + act + ", " + n + ")", x.act(p, act, n), m.act(p, act, n));
                break;
            }
            case 4: {
                int i = arg(13);
                due("trace(" + i + ")", x.trace(i), m.trace(i));
                break;
            }
            case 5: {
                int k = arg(7);
                due("taken(" + p + ", " + k + ")", x.taken(p, k), m.taken(p, k));
                break;
            }
            case 6: {
                int what = arg(7);
                due("count(" + what + ")", x.count(what), m.count(what));
                break;
            }
            case 7: {
                int sign = arg(128);
                if (rnd(4) == 0) {
                    due("feed(" + sign + ")", x.feed(sign), m.feed(sign));
                }
                break;
            }
            default:
                if (rnd(3) == 0) {
                    reads(rnd(4) == 0 ? spoilt(street()) : street());
                }
                break;
        }
    }

    // ---- texts

    private void reads(String text) {
        if (calls.size() + text.length() >= MOST_CALLS) {
            return;
        }
        for (int i = 0; i < text.length(); i++) {
            due("feed(" + (int) text.charAt(i) + ")", x.feed(text.charAt(i)), m.feed(text.charAt(i)));
        }
        due("street()", x.street(), m.street());
    }

    private String street() {
        StringBuilder s = new StringBuilder();
        int clauses = 1 + rnd(3);
        for (int i = 0; i < clauses; i++) {
            if (i > 0) {
                s.append(';');
            }
            switch (rnd(5)) {
                case 0:
                    s.append("begin ").append(rnd(20));
                    break;
                case 1:
                    s.append("loud ").append(rnd(4)).append(' ').append(either(0));
                    break;
                default:
                    s.append("deaf ").append(rnd(4)).append(' ').append(either(0));
                    break;
            }
        }
        return s.toString();
    }

    private String either(int depth) {
        String s = both(depth);
        return rnd(4) == 0 ? s + "|" + both(depth) : s;
    }

    private String both(int depth) {
        String s = single(depth);
        return rnd(4) == 0 ? s + "&" + single(depth) : s;
    }

    private String single(int depth) {
        int pick = rnd(depth > 4 ? 6 : 9);
        if (pick == 7) {
            return "!" + single(depth + 1);
        }
        if (pick == 8) {
            return "(" + either(depth + 1) + ")";
        }
        return "" + "pqkvwd".charAt(rnd(6)) + "<=>".charAt(rnd(3)) + (rnd(6) == 0 ? rnd(100) : rnd(7));
    }

    private String spoilt(String s) {
        int at = rnd(s.length());
        String signs = "loudeafbgin 0129;|&!()pqkvw<=>x";
        char sign = signs.charAt(rnd(signs.length()));
        switch (rnd(3)) {
            case 0:
                return s.substring(0, at);
            case 1:
                return s.substring(0, at) + sign + s.substring(at);
            default:
                return s.substring(0, at) + sign + s.substring(at + 1);
        }
    }
}
