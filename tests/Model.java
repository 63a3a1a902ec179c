import java.util.ArrayList;
import java.util.HashSet;
import java.util.List;
import java.util.Set;
import java.util.TreeSet;

/**
 * The document once more, by other ways than the class goes: texts are read again for each NO, what can be
 * is tried out, tapes are real arrays whose refusals are the host's own. Slow, and as near to the words as may be.
 */
final class Model {
    static final int NONE = -1, BAD = -2, STATE = -3, FULL = -4;
    private static final int[] ABOVE = {-1, 0, 0, 0, 1, 2, 3};
    // the bodies by KIND and act; 0: it has none
    private static final int[][] BODY = {
        {10, 11, 12}, {0, 20, 0}, {30, 0, 0}, {0, 0, 40}, {50, 51, 0}, {0, 0, 60}, {71, 70, 0}};

    /** Of one to another one. */
    static final class Bond {
        int tally = 0;
        Set<Integer> used = new TreeSet<>();
        int last = -5;

        Bond copy() {
            Bond b = new Bond();
            b.tally = tally;
            b.used = new TreeSet<>(used);
            b.last = last;
            return b;
        }
    }

    static final class All {
        List<int[]> people = new ArrayList<>(); // kind, v, wed to, row 0 .. 3
        Bond[][] bonds = new Bond[6][6];
        int day = 0;
        String street = null;
        List<int[]> said = new ArrayList<>();
        List<int[]> plan = new ArrayList<>();
        List<int[]> book = new ArrayList<>();

        All copy() {
            All a = new All();
            a.people = copies(people);
            for (int i = 0; i < 6; i++) {
                for (int j = 0; j < 6; j++) {
                    a.bonds[i][j] = bonds[i][j] == null ? null : bonds[i][j].copy();
                }
            }
            a.day = day;
            a.street = street;
            a.said = copies(said);
            a.plan = copies(plan);
            a.book = copies(book);
            return a;
        }

        private static List<int[]> copies(List<int[]> rows) {
            List<int[]> all = new ArrayList<>();
            for (int[] row : rows) {
                all.add(row.clone());
            }
            return all;
        }
    }

    private All a = new All();
    private All image = null;
    private String text = "";
    private int streets = 0;
    private final Object[] tapes = new Object[6];
    private final List<Integer> ran = new ArrayList<>();

    // ---- who and what there is

    private boolean is(int person) {
        return person >= 0 && person < a.people.size();
    }

    private static boolean in(long n, long from, long to) {
        return n >= from && n <= to;
    }

    int one(int kind, int v) {
        if (!in(kind, 0, 6)) return NONE;
        if (!in(v, 0, 9)) return BAD;
        if (a.people.size() == 6) return FULL;
        int number = a.people.size();
        a.people.add(new int[] {kind, v, -5, 0, 0, 0, 0});
        for (int i = 0; i < 6; i++) {
            a.bonds[number][i] = new Bond();
            a.bonds[i][number] = new Bond();
        }
        return number;
    }

    int of(int person, int what) {
        if (!is(person) || !in(what, 0, 4)) return NONE;
        if (what <= 2) return a.people.get(person)[what];
        int sum = 0;
        for (int i = 0; i < a.people.size(); i++) {
            if (i != person) sum += what == 3 ? a.bonds[person][i].tally : a.bonds[i][person].tally;
        }
        return sum;
    }

    int between(int one, int other, int what) {
        if (!is(one) || !is(other) || !in(what, 0, 5)) return NONE;
        if (one == other) return BAD;
        Bond b = a.bonds[one][other];
        switch (what) {
            case 0: return b.tally;
            case 1: return b.used.stream().mapToInt(w -> 1 << w).sum();
            case 2: return b.last;
            case 3:
                for (int w = 0; w < 4; w++) if (counts(a, one, other, w)) return w;
                return -5;
            case 4: return twice(one, other);
            default: return await(one, other);
        }
    }

    // ---- the text

    /** Reads by a table of what may come, byte by byte; no recursion. */
    static final class Reader {
        private final String s;

        Reader(String s) {
            this.s = s;
        }

        /** -1: it is a street. Else the fault. */
        int fault() {
            // what is open, outermost first: '(' or '!'; '!' ends with its F
            StringBuilder open = new StringBuilder();
            String must = ""; // what must come, letter by letter; N: a number
            int state = 'C'; // C clause, n its number, _ blank, F a factor, o <=>, d a number, a behind a factor
            int clauses = 0;
            boolean begin = false;
            for (int i = 0; i <= s.length(); i++) {
                int c = i < s.length() ? s.charAt(i) : -1;
                if (!must.isEmpty()) {
                    if (c != must.charAt(0)) return i;
                    must = must.substring(1);
                    continue;
                }
                switch (state) {
                    case 'C':
                        if (c == 'l') must = "oud ";
                        else if (c == 'd') must = "eaf ";
                        else if (c == 'b') must = "egin ";
                        else return i;
                        begin = c == 'b';
                        clauses++;
                        state = 'n';
                        break;
                    case 'n':
                    case 'd':
                        if (!digit(c)) return i;
                        boolean testing = state == 'd';
                        if (digit(i + 1 < s.length() ? s.charAt(i + 1) : -1)) i++;
                        if (testing) {
                            while (open.length() > 0 && open.charAt(open.length() - 1) == '!') {
                                open.setLength(open.length() - 1);
                            }
                        }
                        state = testing ? 'a' : begin ? 'e' : '_';
                        break;
                    case '_':
                        if (c != ' ') return i;
                        state = 'F';
                        break;
                    case 'F':
                        if (c == '(' || c == '!') {
                            if (open.length() == 4) return i;
                            open.append((char) c);
                        } else if (c >= 0 && "pqkvwd".indexOf(c) >= 0) {
                            state = 'o';
                        } else {
                            return i;
                        }
                        break;
                    case 'o':
                        if (c != '<' && c != '=' && c != '>') return i;
                        state = 'd';
                        break;
                    case 'a':
                        if (c == '&' || c == '|') {
                            state = 'F';
                            break;
                        }
                        if (open.length() > 0) {
                            if (c != ')') return i;
                            open.setLength(open.length() - 1);
                            while (open.length() > 0 && open.charAt(open.length() - 1) == '!') {
                                open.setLength(open.length() - 1);
                            }
                            break;
                        }
                        // falls to the end of a clause
                    case 'e':
                        if (c < 0) return -1;
                        if (c != ';' || clauses == 10) return i;
                        state = 'C';
                        break;
                    default:
                        throw new IllegalStateException();
                }
            }
            return s.length();
        }

        private static boolean digit(int c) {
            return c >= '0' && c <= '9';
        }
    }

    private static int begin(String street) {
        int begin = 0;
        if (street != null) {
            for (String clause : street.split(";")) {
                String[] parts = clause.split(" ");
                if (parts[0].equals("begin")) begin = Integer.parseInt(parts[1]);
            }
        }
        return begin;
    }

    private static boolean heard(String street, int[] letters) {
        int sum = 1;
        if (street != null) {
            for (String clause : street.split(";")) {
                String[] parts = clause.split(" ");
                if (!parts[0].equals("begin") && holds(parts[2], letters)) {
                    sum += (parts[0].equals("loud") ? 1 : -1) * Integer.parseInt(parts[1]);
                }
            }
        }
        return sum > 0;
    }

    /** Splits at the | outside of all brackets, then at the &. */
    private static boolean holds(String e, int[] letters) {
        for (char join : new char[] {'|', '&'}) {
            int depth = 0;
            for (int i = 0; i < e.length(); i++) {
                depth += e.charAt(i) == '(' ? 1 : e.charAt(i) == ')' ? -1 : 0;
                if (depth == 0 && e.charAt(i) == join) {
                    boolean left = holds(e.substring(0, i), letters);
                    boolean right = holds(e.substring(i + 1), letters);
                    return join == '|' ? left || right : left && right;
                }
            }
        }
        if (e.charAt(0) == '!') return !holds(e.substring(1), letters);
        if (e.charAt(0) == '(') return holds(e.substring(1, e.length() - 1), letters);
        int n = Integer.parseInt(e.substring(2));
        int value = letters["pqkvwd".indexOf(e.charAt(0))];
        return e.charAt(1) == '<' ? value < n : e.charAt(1) == '>' ? value > n : value == n;
    }

    int feed(int sign) {
        if (!in(sign, 0, 127)) return BAD;
        if (text.length() == 100) return FULL;
        text += (char) sign;
        return text.length();
    }

    int street() {
        if (streets == 6) return FULL;
        int fault = new Reader(text).fault();
        String read = text;
        text = "";
        if (fault >= 0) return -10 - fault;
        a.street = read;
        return streets++;
    }

    // ---- what counts

    private static boolean counts(All a, int one, int other, int word) {
        Bond b = a.bonds[one][other];
        return counts(a, one, other, word, a.day, b.used, b.last, a.people.get(one)[1]);
    }

    private static boolean counts(
            All a, int one, int other, int word, int day, Set<Integer> used, int last, int v) {
        if (day < begin(a.street) || day == last) return false;
        int[] who = a.people.get(one);
        boolean heard = heard(a.street, new int[] {one, other, who[0], v, word, day % 10});
        boolean asOne = heard && !used.contains(word);
        boolean asKind = asOne && day % 2 == 0;
        boolean asMute = heard && word == 3;
        switch (who[0]) {
            case 0: return asOne;
            case 1: return asKind;
            case 2: return heard;
            case 3: return asMute;
            case 4: return asKind && word != v % 4;
            case 5: return true;
            default: return asMute && who[3 + day % 4] != 0;
        }
    }

    private static int no(All a, int one, int other, int word) {
        if (!counts(a, one, other, word)) return -5;
        Bond b = a.bonds[one][other];
        Bond back = a.bonds[other][one];
        b.used.add(word);
        b.last = a.day;
        if (b.tally < 2) {
            b.tally++;
        } else {
            b.tally = 0;
            back.tally = 0;
            b.used.clear();
            back.used.clear();
            if (a.people.get(one)[2] == other) {
                a.people.get(one)[2] = -5;
                a.people.get(other)[2] = -5;
            }
        }
        if (b.tally == 2 && back.tally == 2 && a.people.get(one)[2] == -5 && a.people.get(other)[2] == -5) {
            a.people.get(one)[2] = other;
            a.people.get(other)[2] = one;
        }
        return b.tally;
    }

    private int noFault(int one, int other, int word) {
        if (!is(one) || !is(other) || !in(word, 0, 3)) return NONE;
        return one == other ? BAD : 0;
    }

    int counts(int one, int other, int word) {
        int f = noFault(one, other, word);
        return f != 0 ? f : counts(a, one, other, word) ? 1 : 0;
    }

    int refuse(int one, int other, int word) {
        int f = noFault(one, other, word);
        return f != 0 ? f : no(a, one, other, word);
    }

    int row(int person, int part, int n) {
        if (!is(person) || !in(part, 0, 3)) return NONE;
        if (!in(n, 0, 9)) return BAD;
        int[] who = a.people.get(person);
        if (who[0] != 6) return STATE;
        int was = who[3 + part];
        who[3 + part] = n;
        return was;
    }

    // ---- what is asked

    /** All that can be by each day: tally, used and last, tried out. */
    private int twice(int one, int other) {
        if (a.bonds[one][other].tally == 2) return 0;
        Set<List<Object>> can = new HashSet<>();
        Bond b = a.bonds[one][other];
        can.add(List.of(b.tally, new TreeSet<>(b.used), b.last));
        for (int n = 0; n <= 30; n++) {
            Set<List<Object>> next = new HashSet<>(can);
            for (List<Object> s : can) {
                @SuppressWarnings("unchecked")
                Set<Integer> used = (Set<Integer>) s.get(1);
                for (int w = 0; w < 4; w++) {
                    if (counts(a, one, other, w, a.day + n, used, (int) s.get(2), a.people.get(one)[1])) {
                        Set<Integer> more = new TreeSet<>(used);
                        more.add(w);
                        int tally = (int) s.get(0) + 1;
                        if (tally == 2) return n;
                        next.add(List.of(tally, more, a.day + n));
                    }
                }
            }
            can = next;
        }
        return -5;
    }

    private int await(int one, int other) {
        int there = twice(one, other);
        int back = twice(other, one);
        boolean wed = a.people.get(one)[2] != -5 || a.people.get(other)[2] != -5;
        return there == -5 || back == -5 || wed ? -5 : Math.max(there, back);
    }

    private List<Integer> near() {
        List<Integer> pairs = new ArrayList<>();
        for (int i = 0; i < 6; i++) {
            for (int j = i + 1; j < 6; j++) {
                if (is(i) && is(j) && a.people.get(i)[2] == -5 && a.people.get(j)[2] == -5) {
                    Set<Integer> tallies = Set.copyOf(List.of(a.bonds[i][j].tally, a.bonds[j][i].tally));
                    if (tallies.equals(Set.of(1, 2))) pairs.add(10 * i + j);
                }
            }
        }
        return pairs;
    }

    private int wall() {
        int best = 63;
        for (int set = 0; set < 64; set++) {
            boolean walls = true;
            for (int pair : near()) {
                walls &= (set >> pair / 10 & 1) == 1 || (set >> pair % 10 & 1) == 1;
            }
            if (walls && Integer.bitCount(set) < Integer.bitCount(best)) best = set;
        }
        return near().isEmpty() ? 0 : best;
    }

    private static int wedOnes(All a) {
        return (int) a.people.stream().filter(p -> p[2] != -5).count();
    }

    private static int tallies(All a) {
        int sum = 0;
        for (int i = 0; i < a.people.size(); i++) {
            for (int j = 0; j < a.people.size(); j++) {
                sum += i == j ? 0 : a.bonds[i][j].tally;
            }
        }
        return sum;
    }

    int told(int what) {
        switch (what) {
            case 0: return a.day;
            case 1: return begin(a.street);
            case 2: return wedOnes(a);
            case 3: return tallies(a);
            case 4: return near().size();
            case 5: return near().isEmpty() ? -5 : near().get(0);
            case 6: return wall();
            default: return NONE;
        }
    }

    int pass(int n) {
        if (!in(n, 0, 60)) return BAD;
        if (a.day + n > 9999) return STATE;
        a.day += n;
        return a.day;
    }

    int match(int n, int what) {
        if (what != 0 && !(what >= 10 && is(what - 10))) return NONE;
        if (!in(n, 0, 30)) return BAD;
        boolean[][] ok = new boolean[6][6];
        for (int i = 0; i < a.people.size(); i++) {
            for (int j = i + 1; j < a.people.size(); j++) {
                ok[i][j] = in(await(i, j), 0, n);
            }
        }
        List<String> rows = new ArrayList<>();
        allRows(ok, new char[a.people.size()], rows);
        rows.sort((r, s) -> count9(r) != count9(s) ? Integer.compare(count9(r), count9(s)) : r.compareTo(s));
        String row = rows.get(0);
        if (what == 0) return (row.length() - count9(row)) / 2;
        int mate = row.charAt(what - 10) - '0';
        return mate == 9 ? -5 : mate;
    }

    private static int count9(String row) {
        return (int) row.chars().filter(c -> c == '9').count();
    }

    private void allRows(boolean[][] ok, char[] row, List<String> rows) {
        int first = new String(row).indexOf('\0');
        if (first < 0) {
            rows.add(new String(row));
            return;
        }
        row[first] = '9';
        allRows(ok, row, rows);
        for (int j = first + 1; j < row.length; j++) {
            if (row[j] == '\0' && ok[first][j]) {
                row[first] = (char) ('0' + j);
                row[j] = (char) ('0' + first);
                allRows(ok, row, rows);
                row[j] = '\0';
            }
        }
        row[first] = '\0';
    }

    // ---- said, odds

    int say(int one, int other, int word, int n, boolean counted) {
        if (one == -1) {
            a.said.clear();
            return 0;
        }
        int f = noFault(one, other, word);
        if (f != 0) return f;
        if (!in(n, 0, 20)) return BAD;
        if (a.said.size() == 5) return FULL;
        a.said.add(new int[] {one, other, word, n, counted ? 1 : 0});
        return a.said.size();
    }

    private boolean so(int[] s, int v) {
        Bond b = a.bonds[s[0]][s[1]];
        return counts(a, s[0], s[1], s[2], a.day + s[3], b.used, b.last, v) == (s[4] == 1);
    }

    int wrong() {
        for (int i = 0; i < a.said.size(); i++) {
            if (!so(a.said.get(i), a.people.get(a.said.get(i)[0])[1])) return i;
        }
        return -5;
    }

    int can(int person, int what) {
        if (!is(person) || !in(what, 0, 1)) return NONE;
        TreeSet<Integer> vs = new TreeSet<>();
        for (int v = 0; v < 10; v++) {
            final int it = v;
            if (a.said.stream().filter(s -> s[0] == person).allMatch(s -> so(s, it))) vs.add(v);
        }
        return what == 0 ? vs.size() : vs.isEmpty() ? -5 : vs.first();
    }

    private static long fraction(int above, int below, int part) {
        int divisor = java.math.BigInteger.valueOf(above).gcd(java.math.BigInteger.valueOf(below)).intValue();
        return (part == 0 ? above : below) / divisor;
    }

    long odds(int one, int other, int part) {
        if (!is(one) || !is(other) || one == other || !in(part, 0, 1)) return Long.MIN_VALUE;
        int n = 0;
        for (int w = 0; w < 4; w++) if (counts(a, one, other, w)) n++;
        return fraction(n, 4, part);
    }

    long mean(int part) {
        if (!in(part, 0, 1) || a.people.isEmpty()) return Long.MIN_VALUE;
        return fraction(tallies(a), a.people.size(), part);
    }

    // ---- plans, books

    int plan(int what, int n) {
        if (what == -1) {
            a.plan.clear();
            return 0;
        }
        if (!in(what, 0, 1)) return NONE;
        if (what == 1) {
            if (n < 0) return NONE;
            int f = noFault(n / 100, n / 10 % 10, n % 10);
            if (f != 0) return f;
        }
        if (a.plan.size() == 10) return FULL;
        a.plan.add(new int[] {what, n});
        return a.plan.size();
    }

    int ends(int what) {
        if (!in(what, 0, 1)) return NONE;
        All then = a.copy();
        for (int[] p : a.plan) {
            if (p[0] == 0) then.day++;
            else no(then, p[1] / 100, p[1] / 10 % 10, p[1] % 10);
        }
        return what == 0 ? wedOnes(then) : tallies(then);
    }

    int book(int one, int other, int tally) {
        if (one == -1) {
            a.book.clear();
            return 0;
        }
        if (!is(one) || !is(other)) return NONE;
        if (one == other || !in(tally, 0, 2)) return BAD;
        if (a.book.size() == 8) return FULL;
        a.book.add(new int[] {one, other, tally});
        return a.book.size();
    }

    int looked() {
        for (int i = 0; i < a.book.size(); i++) {
            int[] b = a.book.get(i);
            if (a.bonds[b[0]][b[1]].tally != b[2]) return i;
        }
        return -5;
    }

    // ---- judging, the image, acts

    int judge(int tape, int i) {
        if (!in(tape, 0, 5)) return NONE;
        Object t = tapes[tape];
        if (t != null && !(t instanceof byte[])) return -12;
        byte[] row = t == null ? new byte[0] : (byte[]) t;
        for (int p = 0; p < a.people.size(); p++) {
            long place = (long) i + p;
            if (i < 0 || place >= row.length) return 100 + p;
            if (row[(int) place] != a.people.get(p)[2]) return p;
        }
        return -5;
    }

    int image() {
        image = a.copy();
        return a.people.size();
    }

    int undo() {
        if (image == null) return STATE;
        a = image.copy();
        return a.people.size();
    }

    int act(int person, int act, int x) {
        ran.clear();
        if (!is(person) || !in(act, 0, 2)) return 0;
        return runs(person, a.people.get(person)[0], act, x);
    }

    /** The body of a KIND, or, if that has none, of the next above. */
    private int runs(int i, int kind, int act, int x) {
        int at = kind;
        while (BODY[at][act] == 0) at = ABOVE[at];
        int body = BODY[at][act];
        ran.add(body);
        int own = a.people.get(i)[0];
        int v = a.people.get(i)[1];
        int up = ABOVE[at];
        switch (body) {
            case 10: return x + i;
            case 11: return runs(i, own, 0, x) - v;
            case 12: return runs(i, own, 1, x) * 2;
            case 20: return runs(i, up, 1, x) ^ 6;
            case 30: return runs(i, up, 0, x * 3);
            case 40: {
                int first = runs(i, up, 2, x);
                return first + runs(i, own, 1, 1);
            }
            case 50: return -runs(i, up, 0, x);
            case 51: return runs(i, up, 1, x + 1);
            case 60: return runs(i, up, 2, x - i);
            case 70: {
                int first = runs(i, up, 1, x);
                return first + runs(i, up, 0, 2);
            }
            default: return runs(i, up, 0, x) ^ v;
        }
    }

    int trace(int i) {
        return in(i, 0, Math.min(ran.size(), 20) - 1) ? ran.get(i) : NONE;
    }

    int taken(int person, int k) {
        if (!in(k, 0, 6)) return BAD;
        if (!is(person)) return -11;
        for (int at = a.people.get(person)[0]; at >= 0; at = ABOVE[at]) {
            if (at == k) return a.people.get(person)[0];
        }
        return -12;
    }

    int count(int what) {
        int[] all = {a.people.size(), streets, a.said.size(), a.plan.size(), a.book.size(), text.length(), ran.size()};
        return in(what, 0, 6) ? all[what] : BAD;
    }

    // ---- tapes

    int tape(int tape, int sort, int n) {
        if (!in(tape, 0, 5)) return NONE;
        if (!in(sort, -1, 4) || (sort >= 0 && n > 60)) return BAD;
        try {
            switch (sort) {
                case 0: tapes[tape] = new byte[n]; break;
                case 1: tapes[tape] = new short[n]; break;
                case 2: tapes[tape] = new int[n]; break;
                case 3: tapes[tape] = new long[n]; break;
                case 4: tapes[tape] = new boolean[n]; break;
                default: tapes[tape] = null;
            }
        } catch (NegativeArraySizeException e) {
            return -14;
        }
        return 1;
    }

    int item(int tape, int i, long v) {
        if (!in(tape, 0, 5)) return NONE;
        if (tapes[tape] == null) return -11;
        Object t = tapes[tape];
        try {
            if (t instanceof byte[]) ((byte[]) t)[i] = (byte) v;
            else if (t instanceof short[]) ((short[]) t)[i] = (short) v;
            else if (t instanceof int[]) ((int[]) t)[i] = (int) v;
            else if (t instanceof long[]) ((long[]) t)[i] = v;
            else ((boolean[]) t)[i] = v != 0;
        } catch (ArrayIndexOutOfBoundsException e) {
            return -13;
        }
        return 1;
    }

    long read(int tape, int i) {
        if (!in(tape, 0, 5) || tapes[tape] == null) return Long.MIN_VALUE;
        Object t = tapes[tape];
        try {
            return t instanceof boolean[]
                    ? (((boolean[]) t)[i] ? 1 : 0)
                    : java.lang.reflect.Array.getLong(t, i);
        } catch (ArrayIndexOutOfBoundsException e) {
            return Long.MIN_VALUE;
        }
    }

    int shift(int tape, int i, int other, int j, int n) {
        if (!in(tape, 0, 5) || !in(other, 0, 5)) return NONE;
        try {
            System.arraycopy(tapes[tape], i, tapes[other], j, n);
        } catch (NullPointerException e) {
            return -11;
        } catch (ArrayStoreException e) {
            return -12;
        } catch (IndexOutOfBoundsException e) {
            return -13;
        }
        return n;
    }
}
