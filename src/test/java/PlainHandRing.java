import java.util.ArrayDeque;
import java.util.ArrayList;
import java.util.Arrays;
import java.util.Deque;
import java.util.List;

/**
 * The document told a second time, as naively as it goes: trees that are walked, rows that are tried one by one.
 * It shares nothing with the class but the document, so that the two can be held against one another.
 */
final class PlainHandRing {
    static final class State {
        List<int[]> people = new ArrayList<>();
        boolean[][] holds = new boolean[8][8];
        int[] terms = {0, 1, 0, 50};
        List<PlainText> laws = new ArrayList<>();
        int force = -1;
        List<int[]> seen = new ArrayList<>();

        State copy() {
            State s = new State();
            for (int[] p : people) {
                s.people.add(p.clone());
            }
            for (int i = 0; i < 8; i++) {
                s.holds[i] = holds[i].clone();
            }
            s.terms = terms.clone();
            s.laws = new ArrayList<>(laws);
            s.force = force;
            for (int[] one : seen) {
                s.seen.add(one.clone());
            }
            return s;
        }

        int n() {
            return people.size();
        }
    }

    record Step(int deed, State ahead) { }

    State s = new State();
    State[] images = new State[2];
    State latestDays;
    Deque<Step> undo = new ArrayDeque<>();
    String tape = "";
    int fault = -1;
    int stopped = -1;
    int gaps;
    int status;
    int[] refusals = new int[7];

    // ---- refusing

    private int no(int code) {
        status = code;
        refusals[-code]++;
        return code;
    }

    private int yes(int answer) {
        status = 0;
        return answer;
    }

    private static boolean in(int v, int low, int high) {
        return v >= low && v <= high;
    }

    private boolean is(int p) {
        return in(p, 0, s.n() - 1);
    }

    // ---- people, laws

    static int far(State s, int a, int b) {
        int[] p = s.people.get(a);
        int[] q = s.people.get(b);
        return Math.abs(p[0] / 5 - q[0] / 5) + Math.abs(p[0] % 5 - q[0] % 5);
    }

    static PlainText lawOf(State s) {
        return s.force == -1 ? null : s.laws.get(s.force);
    }

    static PlainText.Words twoWords(State s, int one, int other) {
        int a = Math.min(one, other);
        int b = Math.max(one, other);
        return w -> switch (w) {
            case "one" -> a;
            case "other" -> b;
            case "kind" -> s.people.get(a)[2];
            case "kin" -> s.people.get(b)[2];
            case "far" -> far(s, a, b);
            case "reach" -> s.people.get(a)[1] + s.people.get(b)[1];
            case "day" -> s.terms[0];
            default -> s.terms[2];
        };
    }

    static PlainText.Words oneWords(State s, int p) {
        return w -> switch (w) {
            case "one" -> p;
            case "kind" -> s.people.get(p)[2];
            case "reach" -> s.people.get(p)[1];
            case "day" -> s.terms[0];
            case "mood" -> s.terms[2];
            default -> -1;
        };
    }

    static Long told(PlainText law, String head, PlainText.Words words) {
        Long last = null;
        if (law != null) {
            for (PlainText.Clause c : law.clauses) {
                if (c.head.equals(head)) {
                    try {
                        if (c.test == null || c.test.so(words)) {
                            last = c.first == null ? 0L : c.first.get(words);
                        }
                    } catch (PlainText.Broken broken) {
                        continue;
                    }
                }
            }
        }
        return last;
    }

    static int lost(State s, PlainText law, int a, int b) {
        Long v = told(law, "loses", twoWords(s, a, b));
        return v == null ? far(s, a, b) : (int) Math.min(9, Math.max(0, v));
    }

    static boolean barred(State s, PlainText law, int a, int b) {
        return told(law, "bars", twoWords(s, a, b)) != null;
    }

    static int tires(State s, int p) {
        Long v = told(lawOf(s), "tires", oneWords(s, p));
        return v == null ? 0 : (int) Math.min(4, Math.max(0, v));
    }

    static boolean near(State s, int a, int b) {
        return far(s, a, b) <= s.people.get(a)[1] + s.people.get(b)[1];
    }

    static boolean can(State s, PlainText law, int a, int b) {
        return a != b && near(s, a, b) && !barred(s, law, a, b);
    }

    static int handsOf(State s, int p) {
        int sum = 0;
        for (boolean b : s.holds[p]) {
            sum += b ? 1 : 0;
        }
        return sum;
    }

    static int bits(boolean[] row) {
        int bits = 0;
        for (int i = 0; i < row.length; i++) {
            bits |= row[i] ? 1 << i : 0;
        }
        return bits;
    }

    static int holds(State s) {
        int sum = 0;
        for (int p = 0; p < 8; p++) {
            sum += handsOf(s, p);
        }
        return sum / 2;
    }

    static int lostAll(State s) {
        int sum = 0;
        for (int a = 0; a < s.n(); a++) {
            for (int b = 0; b < a; b++) {
                sum += s.holds[a][b] ? lost(s, lawOf(s), a, b) : 0;
            }
        }
        return sum;
    }

    // ---- deeds on a state

    static int settle(State s) {
        int gone = 0;
        for (int a = 0; a < s.n(); a++) {
            for (int b = 0; b < a; b++) {
                if (s.holds[a][b] && !can(s, lawOf(s), a, b)) {
                    s.holds[a][b] = false;
                    s.holds[b][a] = false;
                    gone++;
                }
            }
        }
        return gone;
    }

    static int deed(State s, int deed, long first, long second) {
        if (deed < 2) {
            if (first == second) {
                return -1;
            }
            if (first < 0 || first >= s.n() || second < 0 || second >= s.n()) {
                return -2;
            }
            int a = (int) first;
            int b = (int) second;
            if (deed == 0) {
                if (s.holds[a][b] || handsOf(s, a) > 1 || handsOf(s, b) > 1 || !can(s, lawOf(s), a, b)) {
                    return -3;
                }
                s.holds[a][b] = true;
                s.holds[b][a] = true;
                return lost(s, lawOf(s), a, b);
            }
            if (!s.holds[a][b]) {
                return -3;
            }
            s.holds[a][b] = false;
            s.holds[b][a] = false;
            return holds(s);
        }
        if (deed == 2) {
            if (second < 1 || second > 4) {
                return -1;
            }
            if (first < 0 || first >= s.n()) {
                return -2;
            }
            int[] p = s.people.get((int) first);
            int x = p[0] % 5;
            int y = p[0] / 5;
            if (second == 1) {
                y++;
            } else if (second == 2) {
                x++;
            } else if (second == 3) {
                y--;
            } else {
                x--;
            }
            if (!in(x, 0, 4) || !in(y, 0, 4)) {
                return -3;
            }
            p[0] = 5 * y + x;
            return settle(s);
        }
        if (s.terms[0] == 999) {
            return -3;
        }
        int[] by = new int[s.n()];
        for (int p = 0; p < s.n(); p++) {
            by[p] = tires(s, p);
        }
        for (int p = 0; p < s.n(); p++) {
            s.people.get(p)[1] = Math.max(0, s.people.get(p)[1] - by[p]);
        }
        s.terms[0]++;
        settle(s);
        return s.terms[0];
    }

    private int noted(int deed, long first, long second) {
        State ahead = s.copy();
        int answer = deed(s, deed, first, second);
        if (answer >= 0) {
            undo.addLast(new Step(deed, ahead));
            if (undo.size() > 16) {
                undo.removeFirst();
            }
        }
        return answer;
    }

    private int told(int answer) {
        return answer < 0 ? no(answer) : yes(answer);
    }

    // ---- rings, each tried

    static List<int[]> rowsOf(List<Integer> who) {
        List<int[]> rows = new ArrayList<>();
        if (who.size() >= 3) {
            int[] row = new int[who.size()];
            row[0] = who.get(0);
            rest(who, row, 1, rows);
        }
        return rows;
    }

    private static void rest(List<Integer> who, int[] row, int at, List<int[]> rows) {
        if (at == row.length) {
            if (row[1] < row[at - 1]) {
                rows.add(row.clone());
            }
            return;
        }
        for (int p : who) {
            boolean there = false;
            for (int i = 0; i < at; i++) {
                there |= row[i] == p;
            }
            if (!there) {
                row[at] = p;
                rest(who, row, at + 1, rows);
            }
        }
    }

    static List<Integer> members(int bits) {
        List<Integer> who = new ArrayList<>();
        for (int p = 0; p < 8; p++) {
            if ((bits >> p & 1) == 1) {
                who.add(p);
            }
        }
        return who;
    }

    /** What each hold costs; -1 it can't be. */
    interface Cost {
        int of(int a, int b);
    }

    static int[][] table(State s, Cost cost) {
        int[][] t = new int[8][8];
        for (int a = 0; a < s.n(); a++) {
            for (int b = 0; b < s.n(); b++) {
                t[a][b] = a == b ? -1 : cost.of(a, b);
            }
        }
        return t;
    }

    static int[][] lostTable(State s, PlainText law) {
        return table(s, (a, b) -> can(s, law, a, b) ? lost(s, law, a, b) : -1);
    }

    static int[] costOf(int[] row, int[][] t) {
        int sum = 0;
        int worst = 0;
        for (int i = 0; i < row.length; i++) {
            int c = t[row[i]][row[(i + 1) % row.length]];
            if (c < 0) {
                return null;
            }
            sum += c;
            worst = Math.max(worst, c);
        }
        return new int[] {sum, worst};
    }

    /** Cost and row of the first best ring of some; null without. */
    static int[] bestRing(int bits, int[][] t, int by) {
        int best = Integer.MAX_VALUE;
        int[] found = null;
        for (int[] row : rowsOf(members(bits))) {
            int[] cost = costOf(row, t);
            if (cost != null && cost[by] < best) {
                best = cost[by];
                found = new int[row.length + 1];
                found[0] = best;
                System.arraycopy(row, 0, found, 1, row.length);
            }
        }
        return found;
    }

    private int tell(int[] found, int what) {
        return found == null || what < 0 || what >= found.length ? -1 : found[what];
    }

    private int all() {
        return (1 << s.n()) - 1;
    }

    private List<int[]> fitting() {
        int[][] t = lostTable(s, lawOf(s));
        List<int[]> rows = new ArrayList<>();
        for (int[] row : rowsOf(members(all()))) {
            if (costOf(row, t) == null) {
                continue;
            }
            boolean good = true;
            for (int[] one : s.seen) {
                good &= next(row, one[0], one[1]) == (one[2] == 1);
            }
            if (good) {
                rows.add(row);
            }
        }
        return rows;
    }

    private static boolean next(int[] row, int a, int b) {
        for (int i = 0; i < row.length; i++) {
            int p = row[i];
            int q = row[(i + 1) % row.length];
            if (p == a && q == b || p == b && q == a) {
                return true;
            }
        }
        return false;
    }

    // ---- the face

    int person(int cell, int reach, int kind) {
        if (!in(cell, 0, 24) || !in(reach, 0, 4) || !in(kind, 0, 3)) {
            return no(-1);
        }
        if (s.n() == 8) {
            return no(-5);
        }
        undo.clear();
        s.people.add(new int[] {cell, reach, kind});
        return yes(s.n() - 1);
    }

    int of(int p, int what) {
        if (!is(p) || !in(what, 0, 5)) {
            return -1;
        }
        if (what < 3) {
            return s.people.get(p)[what];
        }
        if (what == 3) {
            return bits(s.holds[p]);
        }
        if (what == 5) {
            return tires(s, p);
        }
        int bits = 0;
        for (int q = 0; q < s.n(); q++) {
            bits |= can(s, lawOf(s), p, q) ? 1 << q : 0;
        }
        return bits;
    }

    int asks(int a, int b, int what) {
        if (!is(a) || !is(b) || a == b || !in(what, 0, 2)) {
            return -1;
        }
        return what == 0 ? far(s, a, b) : what == 1 ? lost(s, lawOf(s), a, b) : barred(s, lawOf(s), a, b) ? 1 : 0;
    }

    int terms(int what, int value) {
        int[] most = {999, 10, 9, 99};
        if (!in(what, 0, 3) || !in(value, 0, most[what])) {
            return no(-1);
        }
        int was = s.terms[what];
        s.terms[what] = value;
        undo.clear();
        return yes(was);
    }

    int feed(int a, int b, int c, int d, int e) {
        if (tape.length() > 380) {
            return -1;
        }
        for (int v : new int[] {a, b, c, d, e}) {
            tape += (char) (v >>> 24) + "" + (char) (v >> 16 & 255) + (char) (v >> 8 & 255) + (char) (v & 255);
        }
        return tape.length();
    }

    int end(int n) {
        if (!in(n, 0, tape.length())) {
            return -1;
        }
        tape = tape.substring(0, n);
        return n;
    }

    private String emptied() {
        String text = tape;
        tape = "";
        return text;
    }

    int row() {
        String text = emptied();
        if (text.isEmpty()) {
            return no(-6);
        }
        int came = 0;
        gaps = 0;
        undo.clear();
        while (!text.isEmpty()) {
            String three = text.substring(0, Math.min(3, text.length()));
            text = text.substring(three.length());
            if (three.length() == 3 && s.n() < 8 && three.charAt(0) < 25 && three.charAt(1) < 5 && three.charAt(2) < 4) {
                s.people.add(new int[] {three.charAt(0), three.charAt(1), three.charAt(2)});
                came++;
            } else {
                gaps++;
            }
        }
        return yes(came);
    }

    int gaps() {
        return gaps;
    }

    int law() {
        String text = emptied();
        if (s.laws.size() == 6) {
            return no(-5);
        }
        PlainText read = new PlainText(text, true);
        fault = read.fault;
        if (fault != -1) {
            return no(-6);
        }
        s.laws.add(read);
        return yes(s.laws.size() - 1);
    }

    int orders() {
        stopped = -1;
        PlainText read = new PlainText(emptied(), false);
        fault = read.fault;
        if (fault != -1) {
            return no(-6);
        }
        State ahead = s.copy();
        Deque<Step> undoAhead = new ArrayDeque<>(undo);
        int[] done = {0, -1};
        PlainText.Words words = w -> orderWord(w, done);
        for (int c = 0; c < read.clauses.size(); c++) {
            PlainText.Clause clause = read.clauses.get(c);
            for (int i = 0; i < clause.times; i++) {
                if (!orderOnce(clause, words, done)) {
                    s = ahead;
                    undo = undoAhead;
                    stopped = c;
                    return no(-3);
                }
            }
        }
        return yes(done[0]);
    }

    private int orderWord(String w, int[] done) {
        int p = w.indexOf(' ') < 0 ? -1 : Integer.parseInt(w.substring(w.indexOf(' ') + 1));
        return switch (w.split(" ")[0]) {
            case "day" -> s.terms[0];
            case "done" -> done[0];
            case "latest" -> done[1];
            case "holds" -> holds(s);
            case "lost" -> lostAll(s);
            case "cell" -> is(p) ? s.people.get(p)[0] : -1;
            default -> is(p) ? handsOf(s, p) : -1;
        };
    }

    private boolean orderOnce(PlainText.Clause clause, PlainText.Words words, int[] done) {
        try {
            if (clause.test != null && !clause.test.so(words)) {
                return true;
            }
        } catch (PlainText.Broken broken) {
            return true;
        }
        int deed = Arrays.asList("take", "loose", "walk", "pass").indexOf(clause.head);
        int answer;
        try {
            long first = clause.first == null ? 0 : clause.first.get(words);
            long second = clause.second == null ? 0 : clause.second.get(words);
            answer = noted(deed, first, second);
        } catch (PlainText.Broken broken) {
            return false;
        }
        if (answer < 0) {
            return false;
        }
        done[0]++;
        if (deed == 0) {
            done[1] = answer;
        }
        return true;
    }

    int fault() {
        return fault;
    }

    int stopped() {
        return stopped;
    }

    int force(int law) {
        if (!in(law, -1, s.laws.size() - 1)) {
            return no(-2);
        }
        int was = s.force;
        s.force = law;
        return yes(was);
    }

    int take(int a, int b) {
        return told(noted(0, a, b));
    }

    int loose(int a, int b) {
        return told(noted(1, a, b));
    }

    int walk(int p, int way) {
        return told(noted(2, p, way));
    }

    int pass() {
        return told(noted(3, 0, 0));
    }

    int undo() {
        if (undo.isEmpty()) {
            return no(-3);
        }
        Step step = undo.removeLast();
        s.people = step.ahead().copy().people;
        s.holds = step.ahead().copy().holds;
        s.terms[0] = step.ahead().terms[0];
        return yes(step.deed());
    }

    int lights(int what) {
        if (!in(what, 0, 2)) {
            return -1;
        }
        if (what == 1) {
            return lostAll(s);
        }
        int met = s.n() == 0 ? 0 : 1;
        for (int i = 0; i < 9; i++) {
            for (int p : members(met)) {
                met |= bits(s.holds[p]);
            }
        }
        if (what == 2) {
            return met;
        }
        return s.n() >= 3 && met == all() && holds(s) == s.n() && lostAll(s) <= s.terms[3] ? 1 : 0;
    }

    int ring(int what) {
        return tell(bestRing(all(), lostTable(s, lawOf(s)), 0), what);
    }

    int rings() {
        int sum = 0;
        int[][] t = lostTable(s, lawOf(s));
        for (int[] row : rowsOf(members(all()))) {
            sum += costOf(row, t) == null ? 0 : 1;
        }
        return sum;
    }

    int narrow(int what) {
        return tell(bestRing(all(), lostTable(s, lawOf(s)), 1), what);
    }

    int gloves(int what) {
        int[][] t = table(s, (a, b) -> !near(s, a, b) ? -1 : barred(s, lawOf(s), a, b) ? 1 : 0);
        return tell(bestRing(all(), t, 0), what);
    }

    int kept(int what) {
        int best = -1;
        int[][] t = lostTable(s, lawOf(s));
        for (int g = 0; g <= all(); g++) {
            if ((best == -1 || Integer.bitCount(g) > Integer.bitCount(best)) && bestRing(g, t, 0) != null) {
                best = g;
            }
        }
        return best == -1 || !in(what, 0, 1) ? -1 : what == 1 ? best : Integer.bitCount(best);
    }

    int two(int what) {
        int best = -1;
        int least = Integer.MAX_VALUE;
        int[][] t = lostTable(s, lawOf(s));
        for (int g = 1; g <= all(); g += 2) {
            int[] here = bestRing(g, t, 0);
            int[] there = bestRing(all() - g, t, 0);
            if (here != null && there != null && here[0] + there[0] < least) {
                least = here[0] + there[0];
                best = g;
            }
        }
        return best == -1 || !in(what, 0, 1) ? -1 : what == 1 ? best : least;
    }

    int stays() {
        int found = 0;
        for (int p = 0; p < s.n(); p++) {
            for (int a = 0; a < s.n(); a++) {
                for (int b = 0; b < s.n(); b++) {
                    if (a != p && b != p && comes(a, b, 0) && !comes(a, b, 1 << p)) {
                        found |= 1 << p;
                    }
                }
            }
        }
        return found;
    }

    private boolean comes(int a, int b, int shut) {
        if (a == b) {
            return true;
        }
        for (int q = 0; q < s.n(); q++) {
            if (q != a && (shut >> q & 1) == 0 && can(s, lawOf(s), a, q) && comes(q, b, shut | 1 << a)) {
                return true;
            }
        }
        return false;
    }

    int seen(int a, int b, int is) {
        if (a == b || !in(is, 0, 1)) {
            return no(-1);
        }
        if (!is(a) || !is(b)) {
            return no(-2);
        }
        if (s.seen.size() == 6) {
            return no(-5);
        }
        s.seen.add(new int[] {a, b, is});
        return yes(s.seen.size());
    }

    int forget() {
        int was = s.seen.size();
        s.seen.clear();
        return was;
    }

    int fits(int what) {
        List<int[]> rows = fitting();
        if (what == 0) {
            return rows.size();
        }
        return rows.isEmpty() || !in(what, 1, s.n()) ? -1 : rows.get(0)[what - 1];
    }

    int ask(int what) {
        List<int[]> rows = fitting();
        if (rows.isEmpty() || !in(what, 0, 1)) {
            return -1;
        }
        int best = -1;
        int fewest = Integer.MAX_VALUE;
        for (int a = 0; a < s.n(); a++) {
            for (int b = a + 1; b < s.n(); b++) {
                int with = 0;
                for (int[] row : rows) {
                    with += next(row, a, b) ? 1 : 0;
                }
                int more = Math.max(with, rows.size() - with);
                if (more < fewest) {
                    fewest = more;
                    best = 10 * a + b;
                }
            }
        }
        return what == 0 ? best : fewest;
    }

    long few(int k, int n) {
        if (!in(k, 1, 20) || !in(n, 0, 99)) {
            return -1;
        }
        long[] p = new long[n + 2];
        p[0] = 1000000000000L;
        for (int i = 0; i < n; i++) {
            long[] q = new long[n + 2];
            for (int j = 0; j <= i; j++) {
                q[j] += p[j] * (10 - s.terms[1]) / 10;
                q[j + 1] += p[j] * s.terms[1] / 10;
            }
            p = q;
        }
        long sum = 0;
        for (int j = 0; j < k && j < p.length; j++) {
            sum += p[j];
        }
        return sum;
    }

    int compare(int law) {
        if (!in(law, -1, s.laws.size() - 1)) {
            return -1;
        }
        return tell(bestRing(all(), lostTable(s, law == -1 ? null : s.laws.get(law)), 0), 0);
    }

    int days(int seed, int n) {
        if (!in(seed, 0, 1000000) || !in(n, 1, 60)) {
            return no(-1);
        }
        if (s.n() == 0) {
            return no(-3);
        }
        State d = s.copy();
        long[] draw = {seed};
        for (int i = 0; i < n && d.terms[0] < 999; i++) {
            int a = draw(draw, d.n());
            int b = draw(draw, d.n());
            int deed = draw(draw, 3);
            deed(d, deed, a, deed == 2 ? b % 4 + 1 : b);
            deed(d, 3, 0, 0);
        }
        latestDays = d;
        return yes(holds(d));
    }

    private static int draw(long[] s, int m) {
        s[0] = (s[0] * 1103 + 12345) % 1000003;
        return (int) (s[0] % m);
    }

    int drawn(int p, int what) {
        if (latestDays == null || !in(p, 0, latestDays.n() - 1) || !in(what, 0, 2)) {
            return -1;
        }
        return what == 2 ? bits(latestDays.holds[p]) : latestDays.people.get(p)[what];
    }

    int image(int k) {
        if (!in(k, 0, 1)) {
            return no(-1);
        }
        images[k] = s.copy();
        return yes(0);
    }

    int back(int k) {
        if (!in(k, 0, 1)) {
            return no(-1);
        }
        if (images[k] == null) {
            return no(-2);
        }
        s = images[k].copy();
        undo.clear();
        return yes(0);
    }

    int count(int what) {
        int[] all = {s.n(), holds(s), s.seen.size(), s.laws.size(), undo.size(), tape.length(), refusals[1], refusals[2],
            refusals[3], refusals[5], refusals[6], s.force, s.terms[0], s.terms[1], s.terms[2], s.terms[3]};
        return in(what, 0, 15) ? all[what] : -1;
    }

    int status() {
        return status;
    }
}
