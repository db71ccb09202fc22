import java.util.ArrayList;
import java.util.List;

/** Gathers answers that are not the ones due; texts are put on a tape through it. */
final class Due {
    private final String name;
    private final List<String> wrong = new ArrayList<>();
    private String part = "";
    private int asked;

    Due(String name) {
        this.name = name;
    }

    void part(String part) {
        this.part = part;
    }

    void same(String call, long want, long got) {
        asked++;
        if (want != got) {
            wrong.add(part + ": " + call + " answered " + got + ", due is " + want);
        }
    }

    void fail(String what) {
        asked++;
        wrong.add(part + ": " + what);
    }

    void same(String call, String want, String got) {
        asked++;
        if (!want.equals(got)) {
            wrong.add(part + ": " + call + " answered " + got + ", due is " + want);
        }
    }

    int asked() {
        return asked;
    }

    int wrong() {
        return wrong.size();
    }

    void close() {
        for (int i = 0; i < wrong.size() && i < 40; i++) {
            System.out.println(wrong.get(i));
        }
        System.out.println(name + ": " + asked + " answers, " + wrong.size() + " not as due");
        if (!wrong.isEmpty()) {
            System.exit(1);
        }
    }

    /** Puts a text behind what is on the tape; the tape must be empty or hold a multiple of twenty bytes. */
    static int put(HandRing x, String text) {
        int at = 0;
        int had = x.count(5);
        while (at < text.length()) {
            x.feed(four(text, at), four(text, at + 4), four(text, at + 8), four(text, at + 12), four(text, at + 16));
            at += 20;
        }
        return x.end(had + text.length());
    }

    static int four(String text, int at) {
        int number = 0;
        for (int i = at; i < at + 4; i++) {
            number = number << 8 | (i < text.length() ? text.charAt(i) & 255 : 0);
        }
        return number;
    }

    static int law(HandRing x, String text) {
        put(x, text);
        return x.law();
    }

    static int orders(HandRing x, String text) {
        put(x, text);
        return x.orders();
    }
}
