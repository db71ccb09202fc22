import java.lang.management.ManagementFactory;

/** What calls make is counted by the bytes that this thread takes: nothing but a new law may take any. */
public final class RoomTest {
    private static final Due due = new Due("RoomTest");
    private static final com.sun.management.ThreadMXBean BEAN =
        (com.sun.management.ThreadMXBean) ManagementFactory.getThreadMXBean();
    private static final String LAW = "loses [kind+kin]*far%7 if not (day<mood or reach>7);tires 1 if mood=3;bars if one=3 and other=5";
    private static final String ORDERS = "take 0 with 1 if hands 0<2;loose 0 from 1;walk 2 to 1;walk 2 to 3;pass times 3 if lost<cell 4";

    private static long sink;

    public static void main(String[] args) {
        long thread = Thread.currentThread().getId();
        // the first one loads classes, which takes room of its own
        sink += new HandRing().count(0);
        long before = BEAN.getThreadAllocatedBytes(thread);
        HandRing x = new HandRing();
        long made = BEAN.getThreadAllocatedBytes(thread) - before;
        due.same("an object takes " + made + " bytes, at most 40000", 1, made <= 40000 ? 1 : 0);
        fill(x);
        int[] law = numbers(LAW);
        int[] orders = numbers(ORDERS);
        for (int warm = 0; warm < 50; warm++) {
            calls(x, orders);
        }
        before = BEAN.getThreadAllocatedBytes(thread);
        for (int i = 0; i < 200; i++) {
            calls(x, orders);
        }
        long taken = BEAN.getThreadAllocatedBytes(thread) - before;
        due.same("10000 calls take " + taken + " bytes, at most 2000", 1, taken <= 2000 ? 1 : 0);
        x.image(0);
        before = BEAN.getThreadAllocatedBytes(thread);
        for (int i = 0; i < 100; i++) {
            feedAll(x, law);
            x.end(LAW.length());
            sink += x.law();
            x.back(0);
        }
        taken = BEAN.getThreadAllocatedBytes(thread) - before;
        due.same("100 laws take " + taken + " bytes, at most 100000", 1, taken <= 100000 ? 1 : 0);
        due.close();
    }

    private static int[] numbers(String text) {
        int[] n = new int[(text.length() + 19) / 20 * 5];
        for (int i = 0; i < n.length; i++) {
            n[i] = Due.four(text, 4 * i);
        }
        return n;
    }

    private static void feedAll(HandRing x, int[] n) {
        for (int i = 0; i + 4 < n.length; i += 5) {
            x.feed(n[i], n[i + 1], n[i + 2], n[i + 3], n[i + 4]);
        }
    }

    private static void fill(HandRing x) {
        for (int i = 0; i < 8; i++) {
            x.person(3 * i, 4, i % 4);
        }
        Due.law(x, LAW);
        x.force(0);
    }

    private static void calls(HandRing x, int[] orders) {
        feedAll(x, orders);
        x.end(ORDERS.length());
        sink += x.orders() + x.fault() + x.stopped() + x.status() + x.gaps();
        x.terms(0, 4);
        sink += x.take(0, 1) + x.take(1, 2) + x.walk(1, 1) + x.walk(1, 3) + x.pass() + x.undo() + x.loose(0, 1);
        sink += x.ring(0) + x.ring(8) + x.rings() + x.narrow(8) + x.gloves(8) + x.kept(1) + x.two(1) + x.stays();
        sink += x.seen(0, 1, 1) + x.seen(0, 2, 0) + x.fits(0) + x.fits(8) + x.ask(0) + x.ask(1) + x.forget();
        sink += x.few(20, 99) + x.compare(-1) + x.days(7, 60) + x.drawn(3, 1) + x.image(1) + x.back(1);
        for (int what = 0; what < 6; what++) {
            sink += x.of(1, what) + x.asks(0, 1, what) + x.lights(what) + x.count(what);
        }
        x.row();
    }
}
