import java.math.BigInteger;
import java.util.ArrayList;
import java.util.Arrays;
import java.util.List;

/** A text of either language, read into trees with exceptions for faults and for what is broken. */
final class PlainText {
    static final class Broken extends Exception {
        private static final long serialVersionUID = 1L;
    }

    private static final class Fault extends RuntimeException {
        private static final long serialVersionUID = 1L;
    }

    interface Words {
        int value(String word);
    }

    interface Sum {
        long get(Words words) throws Broken;
    }

    interface Test {
        boolean so(Words words) throws Broken;
    }

    static final class Clause {
        String head;
        Sum first;
        Sum second;
        int times = 1;
        Test test;
    }

    record Token(String text, int place) { }

    private static final List<String> LAW_WORDS =
        Arrays.asList("one", "other", "kind", "kin", "far", "reach", "day", "mood");
    private static final List<String> ORDER_WORDS = Arrays.asList("day", "done", "latest", "holds", "lost");

    final List<Clause> clauses = new ArrayList<>();
    int fault = -1;
    private final List<Token> tokens = new ArrayList<>();
    private final boolean law;
    private int at;
    private int parts;

    PlainText(String text, boolean law) {
        this.law = law;
        java.util.regex.Matcher m = java.util.regex.Pattern.compile("[a-z]+|[0-9]+|[^ ]", java.util.regex.Pattern.DOTALL).matcher(text);
        while (m.find()) {
            tokens.add(new Token(m.group(), m.start()));
        }
        tokens.add(new Token("", text.length()));
        try {
            readAll();
        } catch (Fault f) {
            fault = tokens.get(at).place();
        }
    }

    private String now() {
        return tokens.get(at).text();
    }

    private boolean is(String... any) {
        return Arrays.asList(any).contains(now()) && !now().isEmpty();
    }

    private String must(String... any) {
        if (!is(any)) {
            throw new Fault();
        }
        at++;
        return tokens.get(at - 1).text();
    }

    private int number(int low, int high) {
        if (!now().matches("[0-9]+")) {
            throw new Fault();
        }
        BigInteger v = new BigInteger(now());
        if (v.compareTo(BigInteger.valueOf(low)) < 0 || v.compareTo(BigInteger.valueOf(high)) > 0) {
            throw new Fault();
        }
        at++;
        return v.intValue();
    }

    private void readAll() {
        clauses.add(clause());
        while (is(";")) {
            at++;
            if (clauses.size() == 12) {
                throw new Fault();
            }
            clauses.add(clause());
        }
        if (!now().isEmpty()) {
            throw new Fault();
        }
    }

    private Clause clause() {
        Clause c = new Clause();
        if (law) {
            c.head = must("loses", "tires", "bars");
            c.first = c.head.equals("bars") ? null : sum(0);
        } else {
            c.head = must("take", "loose", "walk", "pass");
            if (!c.head.equals("pass")) {
                c.first = sum(0);
                must(c.head.equals("take") ? "with" : c.head.equals("loose") ? "from" : "to");
                c.second = sum(0);
            }
            if (is("times")) {
                at++;
                c.times = number(1, 20);
            }
        }
        if (is("if")) {
            at++;
            c.test = test(0);
        }
        return c;
    }

    private Test test(int depth) {
        Test left = both(depth);
        while (is("or")) {
            at++;
            Test a = left;
            Test b = both(depth);
            left = w -> a.so(w) || b.so(w);
        }
        return left;
    }

    private Test both(int depth) {
        Test left = plain(depth);
        while (is("and")) {
            at++;
            Test a = left;
            Test b = plain(depth);
            left = w -> a.so(w) && b.so(w);
        }
        return left;
    }

    private Test plain(int depth) {
        if (is("not")) {
            at++;
            Test a = plain(depth);
            return w -> !a.so(w);
        }
        if (is("(")) {
            if (depth == 8) {
                throw new Fault();
            }
            at++;
            Test a = test(depth + 1);
            must(")");
            return a;
        }
        Sum a = sum(depth);
        String op = must("<", ">", "=");
        Sum b = sum(depth);
        return w -> {
            int c = Long.compare(a.get(w), b.get(w));
            return op.equals("<") ? c < 0 : op.equals(">") ? c > 0 : c == 0;
        };
    }

    private static long held(long v) throws Broken {
        if (Math.abs(v) > 1000000000L) {
            throw new Broken();
        }
        return v;
    }

    private Sum sum(int depth) {
        Sum left = term(depth);
        while (is("+", "-")) {
            boolean plus = must("+", "-").equals("+");
            Sum a = left;
            Sum b = term(depth);
            left = w -> held(plus ? a.get(w) + b.get(w) : a.get(w) - b.get(w));
        }
        return left;
    }

    private Sum term(int depth) {
        Sum left = part(depth);
        while (is("*", "/", "%")) {
            String op = must("*", "/", "%");
            Sum a = left;
            Sum b = part(depth);
            left = w -> {
                long p = a.get(w);
                long q = b.get(w);
                if (op.equals("*")) {
                    return held(p * q);
                }
                if (q == 0) {
                    throw new Broken();
                }
                return op.equals("/") ? p / q : p - p / q * q;
            };
        }
        return left;
    }

    private Sum part(int depth) {
        if (is("[")) {
            if (depth == 8) {
                throw new Fault();
            }
            at++;
            Sum a = sum(depth + 1);
            must("]");
            return a;
        }
        parts++;
        if (parts > 50) {
            throw new Fault();
        }
        if (now().matches("[0-9]+")) {
            int v = number(0, 1000);
            return w -> v;
        }
        if (!law && is("cell", "hands")) {
            String word = now();
            at++;
            String whole = word + " " + number(0, 7);
            return w -> w.value(whole);
        }
        String word = now();
        if (!(law ? LAW_WORDS : ORDER_WORDS).contains(word)) {
            throw new Fault();
        }
        at++;
        return w -> w.value(word);
    }
}
