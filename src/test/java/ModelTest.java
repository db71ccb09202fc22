import java.util.ArrayList;
import java.util.List;
import java.util.Random;

/** Runs of drawn calls on the class and on the plain model side by side; every answer must be the same. */
public final class ModelTest {
    private static final Due due = new Due("ModelTest");
    private static final String[] SIGNS = {"+", "-", "*", "/", "%", "<", ">", "=", "(", ")", "[", "]", ";", "A", "!", "\t", "\u00e9"};
    private static final String[] STRAY = {"if", "or", "and", "not", "loses", "tires", "bars", "take", "with", "loose",
        "from", "walk", "to", "pass", "times", "one", "cell", "hands", "1001", "8", "21", "0", "x"};

    private static final int[] EXTREMES = {Integer.MIN_VALUE, Integer.MAX_VALUE, -1, 8, 255};

    private final Random r;
    private final HandRing x = new HandRing();
    private final PlainHandRing y = new PlainHandRing();
    private final List<String> log = new ArrayList<>();
    private boolean bad;

    private ModelTest(long seed) {
        r = new Random(seed);
    }

    public static void main(String[] args) {
        int runs = args.length > 0 ? Integer.parseInt(args[0]) : 1500;
        int from = args.length > 1 ? Integer.parseInt(args[1]) : 0;
        for (int seed = from; seed < from + runs && due.wrong() < 3; seed++) {
            due.part("seed " + seed);
            new ModelTest(seed).run();
        }
        due.close();
    }

    private void run() {
        if (r.nextInt(3) > 0) {
            begin();
        }
        int calls = 40 + r.nextInt(200);
        for (int i = 0; i < calls && !bad; i++) {
            call();
        }
        for (int what = -1; what < 17 && !bad; what++) {
            same("count(" + what + ")", y.count(what), x.count(what));
        }
    }

    private void same(String call, long want, long got) {
        log.add(call + " -> " + want);
        due.same(call, want, got);
        if (want != got) {
            bad = true;
            due.fail("the run: " + log);
        }
    }

    private void begin() {
        int n = 3 + r.nextInt(6);
        int small = r.nextInt(3);
        for (int i = 0; i < n; i++) {
            int cell = small == 0 ? r.nextInt(3) + 5 * r.nextInt(2) : r.nextInt(25);
            addPerson(cell, small == 1 ? 4 : r.nextInt(5), r.nextInt(4));
        }
        for (int i = r.nextInt(3); i > 0; i--) {
            text(lawText());
            same("law()", y.law(), x.law());
        }
        int law = r.nextInt(4) - 1;
        same("force(" + law + ")", y.force(law), x.force(law));
    }

    private void addPerson(int cell, int reach, int kind) {
        same("person(" + cell + ", " + reach + ", " + kind + ")", y.person(cell, reach, kind), x.person(cell, reach, kind));
    }

    private void text(String text) {
        for (int at = 0; at < text.length(); at += 20) {
            int[] f = new int[5];
            for (int i = 0; i < 5; i++) {
                f[i] = Due.four(text, at + 4 * i);
            }
            same("feed(..)", y.feed(f[0], f[1], f[2], f[3], f[4]), x.feed(f[0], f[1], f[2], f[3], f[4]));
        }
        same("end(" + text.length() + "): " + text, y.end(text.length()), x.end(text.length()));
    }

    // ---- texts by the grammar, some of them spoilt

    private String lawText() {
        StringBuilder b = new StringBuilder();
        for (int i = 1 + r.nextInt(r.nextInt(6) == 0 ? 13 : 4); i > 0; i--) {
            int head = r.nextInt(3);
            b.append(head == 0 ? "loses " + sum(2, true) : head == 1 ? "tires " + sum(2, true) : "bars");
            if (r.nextInt(3) > 0 || head == 2) {
                b.append(" if ").append(test(2, true));
            }
            b.append(i > 1 ? ";" : "");
        }
        return spoilt(b.toString());
    }

    private String ordersText() {
        StringBuilder b = new StringBuilder();
        for (int i = 1 + r.nextInt(r.nextInt(6) == 0 ? 13 : 5); i > 0; i--) {
            int head = r.nextInt(4);
            String p = who();
            String q = who();
            b.append(head == 0 ? "take " + p + " with " + q : head == 1 ? "loose " + p + " from " + q
                : head == 2 ? "walk " + p + " to " + (r.nextInt(6) == 0 ? q : "" + (1 + r.nextInt(4))) : "pass");
            if (r.nextInt(4) == 0) {
                b.append(" times ").append(1 + r.nextInt(r.nextInt(3) == 0 ? 21 : 3));
            }
            if (r.nextInt(3) == 0) {
                b.append(" if ").append(test(2, false));
            } else if (r.nextInt(2) == 0 && head < 2) {
                b.append(" if hands ").append(r.nextInt(8)).append(head == 0 ? " < 2" : " > 0");
            }
            b.append(i > 1 ? ";" : "");
        }
        return spoilt(b.toString());
    }

    private String who() {
        return r.nextInt(6) == 0 ? sum(1, false) : "" + r.nextInt(Math.max(1, y.s.n()));
    }

    /** A text at one of the limits of both languages, or just beyond. */
    private String limitText(boolean law) {
        String head = law ? "bars" : "pass";
        int open = r.nextInt(10);
        int inner = 7 + r.nextInt(3) - open;
        return switch (r.nextInt(4)) {
            case 0 -> head + " if 1" + "+1".repeat(46 + r.nextInt(5)) + "=" + (law ? "mood" : "cell 7");
            case 1 -> head + " if " + "(".repeat(open) + "[".repeat(Math.max(0, inner)) + "1"
                + "]".repeat(Math.max(0, inner)) + "=1" + ")".repeat(open);
            case 2 -> head + (";" + head).repeat(9 + r.nextInt(4)) + (r.nextBoolean() ? " ;" : " ");
            default -> " ".repeat(r.nextInt(397)) + (r.nextInt(4) > 0 ? head : "");
        };
    }

    private String spoilt(String text) {
        StringBuilder b = new StringBuilder(text);
        int way = r.nextInt(12);
        int at = r.nextInt(b.length());
        if (way == 0) {
            b.insert(at, SIGNS[r.nextInt(SIGNS.length)]);
        } else if (way == 1) {
            b.deleteCharAt(at);
        } else if (way == 2) {
            b.setLength(at);
        } else if (way == 3) {
            b.insert(at, " " + STRAY[r.nextInt(STRAY.length)] + " ");
        } else if (way == 4) {
            b.append("  ");
        }
        return b.length() > 400 ? b.substring(0, 400) : b.toString();
    }

    private String sum(int depth, boolean law) {
        StringBuilder b = new StringBuilder(term(depth, law));
        for (int i = r.nextInt(3); i > 0 && r.nextBoolean(); i--) {
            b.append(r.nextBoolean() ? " + " : "-").append(term(depth, law));
        }
        return b.toString();
    }

    private String term(int depth, boolean law) {
        StringBuilder b = new StringBuilder(part(depth, law));
        for (int i = r.nextInt(4); i > 0 && r.nextInt(3) == 0; i--) {
            b.append("*/%".charAt(r.nextInt(3))).append(part(depth, law));
        }
        return b.toString();
    }

    private String part(int depth, boolean law) {
        int way = r.nextInt(8);
        if (way == 0 && depth > 0) {
            return "[" + sum(depth - 1, law) + "]";
        }
        if (way < 4) {
            return "" + (r.nextInt(12) == 0 ? 1000 : r.nextInt(10));
        }
        String[] laws = {"one", "other", "kind", "kin", "far", "reach", "day", "mood"};
        String[] orders = {"day", "done", "latest", "holds", "lost", "cell " + r.nextInt(8), "hands " + r.nextInt(8)};
        return law ? laws[r.nextInt(laws.length)] : orders[r.nextInt(orders.length)];
    }

    private String test(int depth, boolean law) {
        int way = r.nextInt(9);
        if (way == 0) {
            return "not " + test(depth, law);
        }
        if (way == 1 && depth > 0) {
            return "(" + test(depth - 1, law) + ")";
        }
        if (way == 2 && depth > 0) {
            return test(depth - 1, law) + " or " + test(depth - 1, law);
        }
        if (way == 3 && depth > 0) {
            return test(depth - 1, law) + " and " + test(depth - 1, law);
        }
        return sum(depth, law) + "<>=".charAt(r.nextInt(3)) + sum(depth, law);
    }

    // ---- calls

    private int p() {
        int n = y.s.n();
        if (r.nextInt(60) == 0) {
            return EXTREMES[r.nextInt(EXTREMES.length)];
        }
        return r.nextInt(12) == 0 ? r.nextInt(12) - 2 : r.nextInt(Math.max(1, n));
    }

    private void call() {
        int a = p();
        int b = p();
        int w = r.nextInt(12) - 1;
        String two = "(" + a + ", " + b + ")";
        switch (r.nextInt(44)) {
            case 0 -> addPerson(r.nextInt(27) - 1, r.nextInt(7) - 1, r.nextInt(6) - 1);
            case 1 -> {
                int what = r.nextInt(8) - 1;
                same("of(" + a + ", " + what + ")", y.of(a, what), x.of(a, what));
            }
            case 2 -> {
                int what = r.nextInt(5) - 1;
                same("asks(" + a + ", " + b + ", " + what + ")", y.asks(a, b, what), x.asks(a, b, what));
            }
            case 3 -> callTerms();
            case 4 -> {
                int f = r.nextInt();
                same("feed(" + f + "..)", y.feed(f, a, b, w, -f), x.feed(f, a, b, w, -f));
            }
            case 5 -> {
                int n = r.nextInt(50) - 2;
                same("end(" + n + ")", y.end(n), x.end(n));
            }
            case 6 -> callRow();
            case 7, 8 -> {
                same("end(0)", y.end(0), x.end(0));
                text(r.nextInt(8) == 0 ? limitText(true) : lawText());
                same("law()", y.law(), x.law());
                same("fault()", y.fault(), x.fault());
            }
            case 9, 10, 11, 12 -> {
                same("end(0)", y.end(0), x.end(0));
                text(r.nextInt(8) == 0 ? limitText(false) : ordersText());
                same("orders()", y.orders(), x.orders());
                same("fault()", y.fault(), x.fault());
                same("stopped()", y.stopped(), x.stopped());
            }
            case 13 -> same("law()", y.law(), x.law());
            case 14 -> {
                int law = r.nextInt(9) - 2;
                same("force(" + law + ")", y.force(law), x.force(law));
            }
            case 15, 16, 17, 18, 19 -> same("take" + two, y.take(a, b), x.take(a, b));
            case 20 -> same("loose" + two, y.loose(a, b), x.loose(a, b));
            case 21 -> {
                int way = r.nextInt(6);
                same("walk(" + a + ", " + way + ")", y.walk(a, way), x.walk(a, way));
            }
            case 22 -> same("pass()", y.pass(), x.pass());
            case 23, 24 -> same("undo()", y.undo(), x.undo());
            case 25 -> same("lights(" + (w / 2) + ")", y.lights(w / 2), x.lights(w / 2));
            case 26, 27, 28, 29, 30, 31, 32 -> callPaper();
            case 33, 34 -> {
                int is = r.nextInt(8) == 0 ? 2 : r.nextInt(2);
                same("seen(" + a + ", " + b + ", " + is + ")", y.seen(a, b, is), x.seen(a, b, is));
            }
            case 35 -> {
                if (r.nextInt(3) == 0) {
                    same("forget()", y.forget(), x.forget());
                }
            }
            case 36 -> {
                int k = r.nextInt(23) - 1;
                int n = r.nextInt(103) - 2;
                same("few(" + k + ", " + n + ")", y.few(k, n), x.few(k, n));
            }
            case 37, 38 -> {
                int seed = r.nextInt(20) == 0 ? -1 : r.nextInt(1000002);
                int n = r.nextInt(63);
                same("days(" + seed + ", " + n + ")", y.days(seed, n), x.days(seed, n));
            }
            case 39 -> {
                int what = r.nextInt(5) - 1;
                same("drawn(" + a + ", " + what + ")", y.drawn(a, what), x.drawn(a, what));
            }
            case 40 -> same("image(" + (w / 3) + ")", y.image(w / 3), x.image(w / 3));
            case 41 -> {
                if (r.nextInt(2) == 0) {
                    same("back(" + (w / 3) + ")", y.back(w / 3), x.back(w / 3));
                }
            }
            case 42 -> {
                int what = r.nextInt(18) - 1;
                same("count(" + what + ")", y.count(what), x.count(what));
            }
            default -> {
                same("status()", y.status(), x.status());
                same("gaps()", y.gaps(), x.gaps());
            }
        }
    }

    private void callTerms() {
        int what = r.nextInt(6) - 1;
        int[] most = {1000, 11, 10, 100};
        int value = r.nextInt(4) == 0 ? 999 : r.nextInt(what >= 0 && what < 4 ? most[what] + 2 : 5) - 1;
        same("terms(" + what + ", " + value + ")", y.terms(what, value), x.terms(what, value));
    }

    private void callRow() {
        if (r.nextInt(3) > 0) {
            StringBuilder b = new StringBuilder();
            for (int i = r.nextInt(8); i > 0; i--) {
                b.append((char) (r.nextInt(9) == 0 ? r.nextInt(256) : r.nextInt(4)));
            }
            same("end(0)", y.end(0), x.end(0));
            text(b.toString());
        }
        same("row()", y.row(), x.row());
        same("gaps()", y.gaps(), x.gaps());
    }

    private void callPaper() {
        int w = r.nextInt(11) - 1;
        int t = r.nextInt(4) - 1;
        switch (r.nextInt(11)) {
            case 0 -> same("ring(" + w + ")", y.ring(w), x.ring(w));
            case 1 -> same("rings()", y.rings(), x.rings());
            case 2 -> same("narrow(" + w + ")", y.narrow(w), x.narrow(w));
            case 3 -> same("gloves(" + w + ")", y.gloves(w), x.gloves(w));
            case 4 -> same("kept(" + t + ")", y.kept(t), x.kept(t));
            case 5 -> same("two(" + t + ")", y.two(t), x.two(t));
            case 6 -> same("stays()", y.stays(), x.stays());
            case 7 -> same("fits(" + w + ")", y.fits(w), x.fits(w));
            case 8, 9 -> same("ask(" + t + ")", y.ask(t), x.ask(t));
            default -> {
                int law = r.nextInt(6) - 2;
                same("compare(" + law + ")", y.compare(law), x.compare(law));
            }
        }
    }
}
