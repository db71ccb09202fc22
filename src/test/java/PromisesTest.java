/** For each promise of the document: ordinary calls, the edges that it names, and wrong inputs. */
public final class PromisesTest {
    private static final Due due = new Due("PromisesTest");
    private static final int NONE = HandRing.NONE;

    public static void main(String[] args) {
        newObject();
        person();
        of();
        asks();
        terms();
        feed();
        end();
        row();
        law();
        lawLimits();
        lawSense();
        orders();
        orderWords();
        ordersStopped();
        force();
        take();
        loose();
        walk();
        pass();
        undo();
        lights();
        ring();
        rings();
        narrow();
        gloves();
        kept();
        two();
        stays();
        seen();
        fits();
        ask();
        few();
        compare();
        days();
        images();
        count();
        status();
        due.close();
    }

    private static void is(String call, long want, long got) {
        due.same(call, want, got);
    }

    private static HandRing with(int... people) {
        return Scene.with(people);
    }

    private static HandRing crowd(int n) {
        return Scene.crowd(n);
    }

    private static HandRing underLaw(HandRing x, String text) {
        return Scene.under(x, text);
    }

    private static void faultOfLaw(String text, int want) {
        HandRing x = new HandRing();
        is("law: " + text, want == NONE ? 0 : -6, Due.law(x, text));
        is("fault of law: " + text, want, x.fault());
        is("tape behind law: " + text, 0, x.count(5));
    }

    private static void faultOfOrders(String text, int want) {
        HandRing x = crowd(8);
        int got = Due.orders(x, text);
        is("orders refused: " + text, want == NONE ? 0 : -6, got == -6 ? -6 : 0);
        is("fault of orders: " + text, want, x.fault());
        is("tape behind orders: " + text, 0, x.count(5));
    }

    private static void rowIs(String call, int[] want, java.util.function.IntUnaryOperator got) {
        for (int k = 0; k < want.length; k++) {
            is(call + " at " + k, want[k], got.applyAsInt(k));
        }
        is(call + " behind", NONE, got.applyAsInt(want.length));
        is(call + " ahead", NONE, got.applyAsInt(-2));
    }

    private static void newObject() {
        due.part("promise 1");
        HandRing x = new HandRing();
        int[] counts = {0, 0, 0, 0, 0, 0, 0, 0, 0, 0, 0, NONE, 0, 1, 0, 50};
        for (int i = 0; i < counts.length; i++) {
            is("count(" + i + ")", counts[i], x.count(i));
        }
        is("status()", 0, x.status());
        is("fault()", NONE, x.fault());
        is("stopped()", NONE, x.stopped());
        is("gaps()", 0, x.gaps());
        is("drawn(0, 0)", NONE, x.drawn(0, 0));
        HandRing y = new HandRing();
        x.person(3, 1, 1);
        is("another's count(0)", 0, y.count(0));
    }

    private static void person() {
        due.part("promise 2");
        HandRing x = new HandRing();
        is("person(0, 0, 0)", 0, x.person(0, 0, 0));
        is("person(24, 4, 3)", 1, x.person(24, 4, 3));
        int[][] bad = {{-1, 0, 0}, {25, 0, 0}, {0, -1, 0}, {0, 5, 0}, {0, 0, -1}, {0, 0, 4}};
        for (int[] b : bad) {
            is("person that can't be", -1, x.person(b[0], b[1], b[2]));
        }
        is("count(0)", 2, x.count(0));
        for (int i = 2; i < 8; i++) {
            is("person in the same cell", i, x.person(24, 0, 0));
        }
        is("a ninth", -5, x.person(0, 0, 0));
        is("a ninth that can't be", -1, x.person(25, 0, 0));
        is("count(0)", 8, x.count(0));
    }

    private static void of() {
        due.part("promise 3");
        HandRing x = underLaw(with(7, 3, 2, 12, 0, 1, 24, 1, 0), "tires reach+1 if kind > 0; bars if far > 3");
        is("cell", 7, x.of(0, 0));
        is("reach", 3, x.of(0, 1));
        is("kind", 2, x.of(0, 2));
        is("can: 2 is within reach and barred", 2, x.of(0, 4));
        is("tires by", 4, x.of(0, 5));
        is("tires by", 1, x.of(1, 5));
        is("tires by", 0, x.of(2, 5));
        x.take(0, 1);
        is("hands", 2, x.of(0, 3));
        is("hands", 1, x.of(1, 3));
        is("can, though they hold hands", 2, x.of(0, 4));
        for (int what : new int[] {-1, 6, Integer.MAX_VALUE, Integer.MIN_VALUE}) {
            is("of(0, " + what + ")", NONE, x.of(0, what));
        }
        is("of(3, 0)", NONE, x.of(3, 0));
        is("of(-1, 0)", NONE, x.of(-1, 0));
    }

    private static void asks() {
        due.part("promise 4");
        HandRing x = underLaw(with(0, 0, 1, 24, 0, 2, 4, 0, 3), "loses 7 if kin = 2; bars if one = 0 and other = 2");
        is("far", 8, x.asks(0, 1, 0));
        is("far", 4, x.asks(2, 1, 0));
        is("lost by the law", 7, x.asks(1, 0, 1));
        is("lost by how far", 4, x.asks(0, 2, 1));
        is("barred", 1, x.asks(2, 0, 2));
        is("barred", 0, x.asks(0, 1, 2));
        is("one alone", NONE, x.asks(1, 1, 0));
        is("nobody", NONE, x.asks(0, 3, 0));
        is("nobody", NONE, x.asks(-1, 0, 0));
        is("what", NONE, x.asks(0, 1, 3));
        is("what", NONE, x.asks(0, 1, -1));
    }

    private static void terms() {
        due.part("promise 5");
        HandRing x = new HandRing();
        int[] first = {0, 1, 0, 50};
        int[] most = {999, 10, 9, 99};
        for (int t = 0; t < 4; t++) {
            is("was at first", first[t], x.terms(t, most[t]));
            is("too much", -1, x.terms(t, most[t] + 1));
            is("too little", -1, x.terms(t, -1));
            is("was the most", most[t], x.terms(t, 0));
            is("was 0", 0, x.terms(t, first[t]));
        }
        is("no such term", -1, x.terms(4, 0));
        is("no such term", -1, x.terms(-1, 0));
        HandRing y = crowd(2);
        y.take(0, 1);
        is("refused", -1, y.terms(0, 1000));
        is("can be undone still", 1, y.count(4));
        is("terms(2, 0)", 0, y.terms(2, 0));
        is("can't be undone", -3, y.undo());
    }

    private static void feed() {
        due.part("promise 6");
        HandRing x = new HandRing();
        is("feed", 20, x.feed(0x05040306, 0x01020000, 0, -1, 0));
        is("end", 8, x.end(8));
        is("row", 2, x.row());
        is("the highest byte first", 5, x.of(0, 0));
        is("the second", 4, x.of(0, 1));
        is("the third", 3, x.of(0, 2));
        is("the lowest", 6, x.of(1, 0));
        is("the next number", 1, x.of(1, 1));
        for (int i = 1; i <= 19; i++) {
            is("feed", 20 * i, x.feed(-1, -1, -1, -1, -1));
        }
        is("380 and 20", 400, x.feed(0, 0, 0, 0, 0));
        is("no more", NONE, x.feed(0, 0, 0, 0, 0));
        is("count(5)", 400, x.count(5));
        is("end", 381, x.end(381));
        is("381 and 20", NONE, x.feed(0, 0, 0, 0, 0));
        is("count(5)", 381, x.count(5));
        is("nothing was refused", 0, x.count(6));
    }

    private static void end() {
        due.part("promise 7");
        HandRing x = new HandRing();
        is("end(0)", 0, x.end(0));
        is("end(1)", NONE, x.end(1));
        x.feed(0, 0, 0, 0, 0);
        is("end(21)", NONE, x.end(21));
        is("end(-1)", NONE, x.end(-1));
        is("end(20)", 20, x.end(20));
        is("end(7)", 7, x.end(7));
        is("end(8)", NONE, x.end(8));
        is("count(5)", 7, x.count(5));
        is("feed behind it", 27, x.feed(0, 0, 0, 0, 0));
    }

    private static void row() {
        due.part("promises 8 and 9");
        HandRing x = crowd(2);
        x.take(0, 1);
        is("empty", -6, x.row());
        is("can be undone still", 1, x.count(4));
        Due.put(x, "\u0018\u0004\u0003\u0019\0\0\0\u0005\0\0\0\u0004\1\2\3\0\0");
        is("row", 2, x.row());
        is("gaps", 4, x.gaps());
        is("empty then", 0, x.count(5));
        is("can't be undone", 0, x.count(4));
        is("cell", 24, x.of(2, 0));
        is("reach", 2, x.of(3, 1));
        is("kind", 3, x.of(3, 2));
        is("empty", -6, x.row());
        is("gaps stay", 4, x.gaps());
        Due.put(x, "\0\0\0\0\0\0\0\0\0\0\0\0\0\0\0\0\0\0\u00ff\u00ff\u00ff");
        is("room for four", 4, x.row());
        is("gaps", 3, x.gaps());
        Due.put(x, "\0\0\0");
        is("no room is no refusal", 0, x.row());
        is("gaps", 1, x.gaps());
        is("status", 0, x.status());
        is("a tape of one byte", 1, Due.put(x, "\0"));
        is("row", 0, x.row());
    }

    private static void law() {
        due.part("promises 10 and 12");
        faultOfLaw("loses 1", NONE);
        faultOfLaw("  loses  1  ", NONE);
        faultOfLaw("bars", NONE);
        faultOfLaw("bars if not not (1=1) or[2]>1 and 3<4", NONE);
        faultOfLaw("tires one+other-kind*kin/far%reach+day-mood if 0=0;bars;loses[1]", NONE);
        faultOfLaw("loses 0001000", NONE);
        faultOfLaw("", 0);
        faultOfLaw("   ", 3);
        faultOfLaw("loses", 5);
        faultOfLaw("loses ", 6);
        faultOfLaw("loses 1001", 6);
        faultOfLaw("loses 99999999999999999999999999999999", 6);
        faultOfLaw("lose 1", 0);
        faultOfLaw("Loses 1", 0);
        faultOfLaw("loses1", NONE);
        faultOfLaw("losesone", 0);
        faultOfLaw("loses 1 1", 8);
        faultOfLaw("loses 1a", 7);
        faultOfLaw("loses one1", 9);
        faultOfLaw("loses onez", 6);
        faultOfLaw("loses aone", 6);
        faultOfLaw("loses one`", 9);
        faultOfLaw("loses one{", 9);
        faultOfLaw("loses 1:", 7);
        faultOfLaw("loses -1", 6);
        faultOfLaw("loses (1)", 6);
        faultOfLaw("loses [1", 8);
        faultOfLaw("loses [1)", 8);
        faultOfLaw("loses 1]", 7);
        faultOfLaw("loses 1;", 8);
        faultOfLaw("loses 1; ", 9);
        faultOfLaw("loses 1;;bars", 8);
        faultOfLaw("bars 1", 5);
        faultOfLaw("bars if", 7);
        faultOfLaw("bars if 1", 9);
        faultOfLaw("bars if 1+1", 11);
        faultOfLaw("bars if 1 < 2 < 3", 14);
        faultOfLaw("bars if 1 <= 2", 11);
        faultOfLaw("bars if (1 = 1", 14);
        faultOfLaw("bars if (1 = 1]", 14);
        faultOfLaw("bars if [1 = 1]", 11);
        faultOfLaw("bars if 1 = 1 or", 16);
        faultOfLaw("bars if 1 = 1 and or 1 = 1", 18);
        faultOfLaw("bars if 1 = 1 xor 1 = 1", 14);
        faultOfLaw("bars if 1 = 1 if 1 = 1", 14);
        faultOfLaw("bars if not", 11);
        faultOfLaw("bars times 2", 5);
        faultOfLaw("loses lost", 6);
        faultOfLaw("loses cell 1", 6);
        faultOfLaw("pass", 0);
        faultOfLaw("loses\t1", 5);
        faultOfLaw("loses 1 \u00e9", 8);
        faultOfLaw("loses 1\0", 7);
        HandRing x = new HandRing();
        for (int i = 0; i < 6; i++) {
            is("law", i, Due.law(x, "bars"));
        }
        is("laws", 6, x.count(3));
        Due.law(x, "bars if");
        is("a seventh is not read", -5, x.status());
        is("so there is no fault", NONE, x.fault());
        is("the tape is empty", 0, x.count(5));
        is("a seventh, empty", -5, x.law());
    }

    private static String times(String text, int n) {
        return text.repeat(n);
    }

    private static void lawLimits() {
        due.part("promises 10 and 12, limits");
        faultOfLaw(times("bars;", 11) + "bars", NONE);
        faultOfLaw(times("bars;", 12) + "bars", 60);
        faultOfLaw(times("bars;", 12) + "  x", 62);
        faultOfLaw(times("bars;", 12), 60);
        faultOfLaw("loses " + times("1+", 49) + "1", NONE);
        faultOfLaw("loses " + times("1+", 50) + "1", 106);
        faultOfLaw("loses " + times("1+", 49) + "1;loses one", 112);
        faultOfLaw("loses " + times("1+", 49) + "1;bars", NONE);
        faultOfLaw("loses " + times("1+", 49) + "1;loses [1]", 113);
        faultOfLaw("loses " + times("[", 8) + "1" + times("]", 8), NONE);
        faultOfLaw("loses " + times("[", 9) + "1" + times("]", 9), 14);
        faultOfLaw("bars if " + times("(", 8) + "1=1" + times(")", 8), NONE);
        faultOfLaw("bars if " + times("(", 5) + "[[[1]]]=1" + times(")", 5), NONE);
        faultOfLaw("bars if " + times("(", 5) + "[[[[1]]]]=1" + times(")", 5), 16);
        faultOfLaw("bars if " + times("(1=1) and ", 20) + "(1=1)", NONE);
        faultOfLaw("loses " + times("[1]+", 20) + "[1]", NONE);
        faultOfLaw("bars if " + times("not ", 90) + "1=1", NONE);
        faultOfLaw("loses " + times("0", 394), NONE);
        faultOfLaw("loses " + times("0", 390) + "1000", NONE);
        faultOfLaw("loses " + times("0", 390) + "1001", 6);
        HandRing x = crowd(2);
        x.image(0);
        for (int i = 0; i < 30; i++) {
            is("eight brackets left open", -6, Due.law(x, "bars if " + times("(", 8) + "1=1"));
            is("and closed, much else", 0, Due.law(x, "loses 1;loses 3 if " + times("(", 8) + "1=1" + times(")", 8)
                + " and 1+1+1+1+1+1+1+1+1+1+1+1+1+1+1+1+1+1+1=19"));
            x.force(0);
            is("still read well", 3, x.asks(0, 1, 1));
            x.back(0);
        }
        faultOfOrders("take " + times("1+", 48) + "1 with 1", NONE);
        faultOfOrders("take " + times("1+", 48) + "1 with 1+1", 110);
        faultOfOrders("pass if " + times("cell 1+", 49) + "cell 1=1", 358);
        faultOfOrders("pass times 20 if " + times("cell 1+", 48) + "cell 1=1", NONE);
        faultOfOrders(times("pass;", 11) + "pass", NONE);
        faultOfOrders(times("pass;", 12) + "pass", 60);
    }

    private static int lostBy(String law) {
        HandRing x = with(0, 1, 2, 7, 2, 3);
        x.terms(0, 5);
        x.terms(2, 6);
        underLaw(x, law);
        return x.asks(1, 0, 1);
    }

    private static int tiredBy(String law) {
        HandRing x = with(0, 1, 2, 7, 2, 3);
        x.terms(0, 5);
        x.terms(2, 6);
        underLaw(x, law);
        return x.of(1, 5);
    }

    private static void lawSense() {
        due.part("what laws tell");
        is("one", 0, lostBy("loses one"));
        is("other", 1, lostBy("loses other"));
        is("kind", 2, lostBy("loses kind"));
        is("kin", 3, lostBy("loses kin"));
        is("far", 3, lostBy("loses far"));
        is("reach of both", 3, lostBy("loses reach"));
        is("day", 5, lostBy("loses day"));
        is("mood", 6, lostBy("loses mood"));
        is("without", 3, lostBy("bars"));
        is("at most 9", 9, lostBy("loses 10"));
        is("at least 0", 0, lostBy("loses 0-1"));
        is("the last", 2, lostBy("loses 1;loses 2"));
        is("the last that holds", 1, lostBy("loses 1;loses 2 if 1=2"));
        is("a broken sum", 1, lostBy("loses 1;loses 1/0"));
        is("a broken test", 1, lostBy("loses 1;loses 2 if 1/0=0"));
        is("not of a broken test", 1, lostBy("loses 1;loses 2 if not 1%0=0"));
        is("what can't matter is not asked", 2, lostBy("loses 1;loses 2 if 1=1 or 1/0=0"));
        is("what can't matter is not asked", 1, lostBy("loses 1;loses 2 if not (1=2 and 1/0=0) and 1=2"));
        is("a broken test ahead of an or", 1, lostBy("loses 1;loses 2 if 1/0=0 or 1=1"));
        is("a thousand million is not beyond", 2, lostBy("loses 1;loses 2+0*[1000*1000*1000]"));
        is("one more is", 1, lostBy("loses 1;loses 2+0*[1000*1000*1000+1]"));
        is("the other way", 2, lostBy("loses 1;loses 2+0*[0-1000*1000*1000]"));
        is("the other way beyond", 1, lostBy("loses 1;loses 2+0*[0-1000*1000*1000-1]"));
        is("beyond on the way", 1, lostBy("loses 1;loses 1000*1000*1000*10/1000/1000/1000"));
        is("cut towards 0", 1, lostBy("loses 0-[0-7]/5"));
        is("what is left", 2, lostBy("loses 0-[0-7]%5"));
        is("what is left", 2, lostBy("loses 7%[0-5]"));
        is("from the left", 1, lostBy("loses 9-5-3"));
        is("from the left", 4, lostBy("loses 8/4*2"));
        is("times ahead of plus", 7, lostBy("loses 1+2*3"));
        is("brackets", 9, lostBy("loses [1+2]*3"));
        is("and ahead of or", 1, lostBy("loses 1 if 1=1 or 1=2 and 1=2"));
        is("not binds tightest", 3, lostBy("loses 1 if not 1=1 and 1=2"));
        is("less", 1, lostBy("loses 1 if 1<2;loses 5 if 2<2"));
        is("more", 1, lostBy("loses 1 if 2>1;loses 5 if 2>2"));
        is("no tires", 0, tiredBy("loses 4"));
        is("tires", 1, tiredBy("tires one"));
        is("tires by its own kind", 3, tiredBy("tires kind"));
        is("tires by its own reach", 2, tiredBy("tires reach"));
        is("other, kin, far", 3, tiredBy("tires 0-other-kin-far"));
        is("at most 4", 4, tiredBy("tires 5"));
        is("at least 0", 0, tiredBy("tires 0-5"));
        is("day and mood", 1, tiredBy("tires mood-day"));
        is("the last that holds", 1, tiredBy("tires 1;tires 2 if 1=2;tires 1%0"));
    }

    private static void orders() {
        due.part("promises 11 and 12");
        faultOfOrders("take 0 with 1", NONE);
        faultOfOrders("pass", NONE);
        faultOfOrders("pass times 1 if day = 0;pass", NONE);
        faultOfOrders("take 0 with 1;loose 0 from 1;walk 0 to 1", NONE);
        faultOfOrders("", 0);
        faultOfOrders("  ", 2);
        faultOfOrders("take 0", 6);
        faultOfOrders("take 0 from 1", 7);
        faultOfOrders("take 0 to 1", 7);
        faultOfOrders("loose 0 with 1", 8);
        faultOfOrders("walk 0 with 1", 7);
        faultOfOrders("take with 1", 5);
        faultOfOrders("pass 1", 5);
        faultOfOrders("pass times", 10);
        faultOfOrders("pass times 0", 11);
        faultOfOrders("pass times 21", 11);
        faultOfOrders("pass times 20", NONE);
        faultOfOrders("pass times 0020", NONE);
        faultOfOrders("pass times day", 11);
        faultOfOrders("pass times 1+1", 12);
        faultOfOrders("pass if day = 0 times 2", 16);
        faultOfOrders("pass times 1 times 2", 13);
        faultOfOrders("take cell 7 with 1", NONE);
        faultOfOrders("take cell 8 with 1", 10);
        faultOfOrders("take cell day with 1", 10);
        faultOfOrders("take hands with 1", 11);
        faultOfOrders("take mood with 1", 5);
        faultOfOrders("take one with 1", 5);
        faultOfOrders("loses 1", 0);
        faultOfOrders("bars", 0);
        HandRing x = crowd(3);
        is("three taken", 3, Due.orders(x, "take 0 with 1;take 1 with 2;take 2 with 0"));
        is("holds", 3, x.count(1));
        is("one is not run", 1, Due.orders(x, "pass if day > 5;pass"));
        is("a broken test is not run", 0, Due.orders(x, "pass if 1/0 = 1"));
        is("none is run", 0, Due.orders(x, "loose 5/0 from 9 if 1 = 2"));
        is("day", 1, x.count(12));
        is("asked each time", 4, Due.orders(x, "pass times 20 if day < 5"));
        is("day", 5, x.count(12));
        is("sums are asked each time", 4, Due.orders(x, "walk 0 to 1+[done%2]*2 times 4"));
        is("up and down", 0, x.of(0, 0));
    }

    private static void orderWords() {
        due.part("words of orders");
        HandRing x = underLaw(with(3, 4, 0, 3, 4, 0, 8, 4, 0, 7, 4, 0), "loses 1+one+other");
        x.terms(0, 7);
        is("day", 1, Due.orders(x, "pass if day=7"));
        is("latest is none at first", 1, Due.orders(x, "take 0 with 1 if latest+1=0"));
        is("latest is of this text", 0, Due.orders(x, "take 1 with 2 if latest=2"));
        is("latest", 3, Due.orders(x, "take 1 with 2;pass if latest=4 and done=1;pass if latest=4 and done=2"));
        is("holds, lost", 1, Due.orders(x, "pass if holds=2 and lost=2+4"));
        is("cell", 1, Due.orders(x, "pass if cell 0=3 and cell 2=8 and cell 3=7 and cell 4=0-1 and cell 7=0-1"));
        is("hands", 1, Due.orders(x, "pass if hands 0=1 and hands 1=2 and hands 3=0 and hands 4=0-1"));
        is("by sums", 1, Due.orders(x, "take cell 0 with holds-2"));
        is("0 with 3", 1 << 3 | 1 << 1, x.of(0, 3));
        is("done counts what was run", 3, Due.orders(x, "pass times 5 if done<3"));
    }

    private static void ordersStopped() {
        due.part("promises 11 and 13");
        HandRing x = with(0, 1, 0, 1, 1, 0, 2, 1, 0);
        x.take(0, 1);
        is("the second can't be", -3, Due.orders(x, "take 1 with 2;take 0 with 1"));
        is("stopped", 1, x.stopped());
        is("as it was", 1, x.count(1));
        is("can be undone", 1, x.count(4));
        is("status", -3, x.status());
        is("refused once", 1, x.count(8));
        is("none by -1", 0, x.count(6));
        is("fault", NONE, x.fault());
        is("a broken sum", -3, Due.orders(x, "pass;pass;take 1/0 with 1"));
        is("stopped", 2, x.stopped());
        is("day", 0, x.count(12));
        is("itself", -3, Due.orders(x, "take 1 with 1"));
        is("the other sum broken", -3, Due.orders(x, "take 1 with 2+0/0"));
        is("nobody", -3, Due.orders(x, "take 1 with 3"));
        is("nobody", -3, Due.orders(x, "walk 0-1 to 1"));
        is("no way", -3, Due.orders(x, "walk 0 to 5"));
        is("not held", -3, Due.orders(x, "loose 1 from 2"));
        is("the edge, the third time", -3, Due.orders(x, "walk 2 to 2 times 3"));
        is("cell", 2, x.of(2, 0));
        is("the last day", 0, x.terms(0, 998));
        is("the last day", -3, Due.orders(x, "pass;pass"));
        is("stopped", 1, x.stopped());
        is("day", 998, x.count(12));
        is("one day", 1, Due.orders(x, "pass"));
        is("stopped is none", NONE, x.stopped());
        is("stop again", -3, Due.orders(x, "pass"));
        is("a text that can't be", -6, Due.orders(x, "pas"));
        is("stopped is none", NONE, x.stopped());
        HandRing y = crowd(2);
        y.walk(0, 1);
        for (int i = 0; i < 15; i++) {
            y.pass();
        }
        is("a long one that stops", -3, Due.orders(y, times("pass times 20;", 3) + "take 1 with 1"));
        is("day", 15, y.count(12));
        is("undone as ahead of it", 16, y.count(4));
        for (int i = 0; i < 15; i++) {
            is("undo", 3, y.undo());
        }
        is("undo the oldest", 2, y.undo());
    }

    private static void force() {
        due.part("promise 14");
        HandRing x = new HandRing();
        is("none to begin with", -2, x.force(0));
        Due.law(x, "bars");
        Due.law(x, "loses 3");
        is("which was", NONE, x.force(1));
        is("not refused", 0, x.status());
        is("in force", 1, x.count(11));
        is("no such law", -2, x.force(2));
        is("no such law", -2, x.force(-2));
        is("which was", 1, x.force(0));
        is("none", 0, x.force(NONE));
        is("in force", NONE, x.count(11));
        HandRing y = crowd(2);
        y.take(0, 1);
        underLaw(y, "bars");
        is("holds stay", 1, y.count(1));
        is("till somebody walks", 1, y.walk(0, 1));
    }

    private static void take() {
        due.part("promise 15");
        HandRing x = underLaw(with(0, 1, 0, 3, 2, 0, 4, 0, 1, 3, 0, 0), "loses 5 if far = 3;bars if kind = 0 and kin = 1 and far = 1");
        is("as far as both reach", 5, x.take(0, 1));
        is("again", -3, x.take(1, 0));
        is("too far", -3, x.take(0, 2));
        is("barred", -3, x.take(1, 2));
        is("itself", -1, x.take(1, 1));
        is("itself, nobody", -1, x.take(9, 9));
        is("nobody", -2, x.take(0, 4));
        is("nobody", -2, x.take(-1, 0));
        is("how far", 0, x.take(3, 1));
        HandRing y = crowd(4);
        y.take(0, 1);
        y.take(0, 2);
        is("three hands", -3, y.take(0, 3));
        is("three hands", -3, y.take(3, 0));
        is("others", 0, y.take(1, 2));
        is("undone counts what was done", 3, y.count(4));
    }

    private static void loose() {
        due.part("promise 16");
        HandRing x = crowd(4);
        x.take(0, 1);
        x.take(1, 2);
        is("loose", 1, x.loose(2, 1));
        is("no more", -3, x.loose(2, 1));
        is("not held", -3, x.loose(0, 2));
        is("itself", -1, x.loose(0, 0));
        is("itself, nobody", -1, x.loose(-5, -5));
        is("nobody", -2, x.loose(0, 4));
        is("nobody", -2, x.loose(4, 0));
        is("the last", 0, x.loose(0, 1));
        is("hands", 0, x.of(0, 3));
    }

    private static void walk() {
        due.part("promise 17");
        HandRing x = with(12, 0, 0, 0, 0, 0, 24, 0, 0);
        is("up", 0, x.walk(0, 1));
        is("cell", 17, x.of(0, 0));
        is("right", 0, x.walk(0, 2));
        is("cell", 18, x.of(0, 0));
        is("down", 0, x.walk(0, 3));
        is("cell", 13, x.of(0, 0));
        is("left", 0, x.walk(0, 4));
        is("cell", 12, x.of(0, 0));
        is("edge", -3, x.walk(1, 3));
        is("edge", -3, x.walk(1, 4));
        is("edge", -3, x.walk(2, 1));
        is("edge", -3, x.walk(2, 2));
        is("no way", -1, x.walk(0, 0));
        is("no way", -1, x.walk(0, 5));
        is("no way ahead of nobody", -1, x.walk(3, 5));
        is("nobody", -2, x.walk(3, 1));
        is("nobody", -2, x.walk(-1, 1));
        HandRing y = crowd(3);
        for (int i = 0; i < 3; i++) {
            y.take(i, (i + 1) % 3);
        }
        underLaw(y, "bars if far = 1 or one = 1");
        is("holds of others, too", 3, y.walk(0, 1));
        HandRing z = with(0, 1, 0, 1, 0, 0, 2, 1, 0);
        z.take(0, 1);
        z.take(1, 2);
        is("one of two", 1, z.walk(1, 2));
        is("hands", 4, z.of(1, 3));
    }

    private static void pass() {
        due.part("promise 18");
        HandRing x = underLaw(with(0, 4, 0, 1, 1, 1, 3, 1, 1), "tires day+2 if kind=0;tires 1 if kind=1;loses day");
        x.take(0, 1);
        x.take(0, 2);
        is("pass", 1, x.pass());
        is("tired as it was ahead", 2, x.of(0, 1));
        is("reach 0", 0, x.of(1, 1));
        is("a hold less", 2, x.of(0, 3));
        is("pass", 2, x.pass());
        is("not below 0", 0, x.of(1, 1));
        is("not below 0", 0, x.of(0, 1));
        is("no holds", 0, x.count(1));
        x.terms(0, 998);
        is("the last", 999, x.pass());
        is("no more", -3, x.pass());
        is("day", 999, x.count(12));
        HandRing y = crowd(2);
        y.take(0, 1);
        underLaw(y, "bars if day = 1");
        is("the new day counts", 1, y.pass());
        is("holds", 0, y.count(1));
        is("nobody there", 1, new HandRing().pass());
    }

    private static void undo() {
        due.part("promise 19");
        HandRing x = underLaw(with(0, 1, 0, 1, 1, 0, 6, 1, 0), "tires 1");
        is("none", -3, x.undo());
        x.take(0, 1);
        x.loose(0, 1);
        x.take(1, 2);
        x.walk(0, 2);
        x.pass();
        x.pass();
        is("holds", 0, x.count(1));
        is("pass", 3, x.undo());
        is("reach", 0, x.of(0, 1));
        is("pass", 3, x.undo());
        is("day", 0, x.count(12));
        is("reach", 1, x.of(0, 1));
        is("holds come back", 1, x.count(1));
        is("walk", 2, x.undo());
        is("cell", 0, x.of(0, 0));
        is("take", 0, x.undo());
        is("loose", 1, x.undo());
        is("hands", 2, x.of(0, 3));
        is("take", 0, x.undo());
        is("none", -3, x.undo());
        x.take(0, 1);
        is("refused", -3, x.take(0, 1));
        is("a person that can't be", -1, x.person(25, 0, 0));
        is("can be undone", 1, x.count(4));
        x.seen(0, 1, 1);
        x.force(NONE);
        Due.law(x, "bars");
        x.image(0);
        x.days(1, 1);
        x.forget();
        is("can be undone", 1, x.count(4));
        is("undo", 0, x.undo());
        is("the law in force stays", NONE, x.count(11));
        is("laws stay", 2, x.count(3));
        x.take(0, 1);
        x.person(0, 0, 0);
        is("a person", -3, x.undo());
        HandRing y = crowd(2);
        for (int i = 0; i < 20; i++) {
            y.walk(0, i % 2 == 0 ? 1 : 3);
            y.walk(0, 9);
        }
        is("16 are kept", 16, y.count(4));
        for (int i = 0; i < 16; i++) {
            is("undo", 2, y.undo());
        }
        is("no more", -3, y.undo());
        is("cell", 0, y.of(0, 0));
        is("20 of one text", 20, Due.orders(y, "pass times 20"));
        is("16 are kept", 16, y.count(4));
        for (int day = 19; day >= 4; day--) {
            is("undo", 3, y.undo());
            is("day", day, y.count(12));
        }
        is("no more", -3, y.undo());
        for (int i = 0; i < 30; i++) {
            is("round the middle", 0, y.walk(1, new int[] {1, 2, 3, 4}[i % 4]));
        }
        int[] round = {0, 5, 6, 1};
        for (int i = 29; i >= 14; i--) {
            is("undo", 2, y.undo());
            is("cell", round[i % 4], y.of(1, 0));
        }
        is("no more", -3, y.undo());
    }

    private static void lights() {
        due.part("promise 20");
        HandRing x = underLaw(crowd(6), "loses 9 if one = 0;loses 1 if one > 0");
        is("nothing lost", 0, x.lights(1));
        is("comes to 0", 1, x.lights(2));
        is("dark", 0, x.lights(0));
        int[][] triangles = {{0, 1}, {1, 2}, {2, 0}, {3, 4}, {4, 5}, {5, 3}};
        for (int[] t : triangles) {
            x.take(t[0], t[1]);
        }
        is("two rings are not one", 0, x.lights(0));
        is("comes to", 7, x.lights(2));
        is("lost", 22, x.lights(1));
        x.loose(1, 2);
        x.loose(4, 5);
        x.take(1, 4);
        x.take(2, 5);
        is("one ring", 1, x.lights(0));
        is("comes to all", 63, x.lights(2));
        x.terms(3, 22);
        is("just enough", 1, x.lights(0));
        x.terms(3, 21);
        is("too little", 0, x.lights(0));
        is("no such", NONE, x.lights(3));
        is("no such", NONE, x.lights(-1));
        HandRing y = crowd(2);
        y.take(0, 1);
        is("two", 0, y.lights(0));
        y.person(0, 0, 0);
        is("three in a row", 0, y.lights(0));
        y.take(0, 2);
        y.take(1, 2);
        is("three", 1, y.lights(0));
        y.person(0, 0, 0);
        is("a fourth", 0, y.lights(0));
        is("nobody comes to 0", 0, new HandRing().lights(2));
        is("nobody is dark", 0, new HandRing().lights(0));
    }

    private static void ring() {
        due.part("promise 21");
        HandRing x = with(0, 4, 0, 4, 4, 0, 1, 4, 0, 3, 4, 0);
        is("least lost", 8, x.ring(0));
        rowIs("ring", new int[] {0, 1, 3, 2}, k -> x.ring(1 + k));
        underLaw(x, "loses 2;loses 1 if one=0 and other>1;loses 1 if one=1 and other>1");
        is("least lost", 4, x.ring(0));
        rowIs("ring", new int[] {0, 2, 1, 3}, k -> x.ring(1 + k));
        underLaw(x, "bars if one = 0 and other > 1");
        is("none", NONE, x.ring(0));
        is("none", NONE, x.ring(1));
        is("no such", NONE, x.ring(-1));
        is("no such", NONE, x.ring(Integer.MIN_VALUE));
        is("two people", NONE, crowd(2).ring(0));
        HandRing y = crowd(3);
        is("three people", 0, y.ring(0));
        rowIs("three people", new int[] {0, 1, 2}, k -> y.ring(1 + k));
        HandRing z = crowd(8);
        rowIs("the first as a row", new int[] {0, 1, 2, 3, 4, 5, 6, 7}, k -> z.ring(1 + k));
    }

    private static void rings() {
        due.part("promise 22");
        int[] want = {0, 0, 0, 1, 3, 12, 60, 360, 2520};
        for (int n = 0; n <= 8; n++) {
            is("rings of " + n, want[n], crowd(n).rings());
        }
        is("a five-ring alone", 1, underLaw(crowd(5), "bars if not (other=one+1 or other=one+4)").rings());
        is("nobody with 0", 0, underLaw(crowd(8), "bars if one=0").rings());
        is("by how far", 1, with(0, 1, 0, 1, 1, 1, 5, 1, 2, 6, 0, 3).rings());
        is("2 and 3 apart", 1, underLaw(crowd(4), "bars if one=2").rings());
    }

    private static void narrow() {
        due.part("promise 23");
        String text = "loses 3;loses 9 if one=0 and other=1;loses 0 if one=1;loses 0 if one=2 and other=3";
        HandRing x = underLaw(crowd(4), text);
        is("least lost together", 6, x.ring(0));
        is("the worst is best", 3, x.narrow(0));
        rowIs("narrow", new int[] {0, 2, 1, 3}, k -> x.narrow(1 + k));
        // no more than 4 is lost between 0 and 1, 0 and 4, 1 and 3, 2 and 3, 2 and 4, and 0 and 3; elsewhere 5
        HandRing y = underLaw(crowd(5), "loses 5;loses 0 if one=0 and not other=2;loses 4 if one=1 and other=3;loses 4 if one=2");
        is("the worst is best", 4, y.narrow(0));
        rowIs("narrow", new int[] {0, 1, 3, 2, 4}, k -> y.narrow(1 + k));
        is("none", NONE, underLaw(crowd(4), "bars").narrow(0));
        is("none", NONE, underLaw(crowd(4), "bars").narrow(1));
        is("two people", NONE, crowd(2).narrow(0));
    }

    private static void gloves() {
        due.part("promise 24");
        HandRing x = underLaw(crowd(5), "bars if one=0");
        is("two gloves", 2, x.gloves(0));
        rowIs("gloves", new int[] {0, 1, 2, 3, 4}, k -> x.gloves(1 + k));
        HandRing y = underLaw(crowd(4), "bars if one=0 and other<3;bars if one=1 and other=3");
        is("one glove", 1, y.gloves(0));
        rowIs("one glove", new int[] {0, 1, 2, 3}, k -> y.gloves(1 + k));
        is("none is needed", 0, crowd(3).gloves(0));
        is("all barred", 8, underLaw(crowd(8), "bars").gloves(0));
        is("too far", NONE, with(0, 0, 0, 24, 0, 0, 0, 0, 0).gloves(0));
        is("too far", NONE, with(0, 0, 0, 24, 0, 0, 0, 0, 0).gloves(1));
        is("two people", NONE, crowd(2).gloves(0));
    }

    private static void kept() {
        due.part("promise 25");
        HandRing x = underLaw(crowd(7), "bars if one<3 and other>2");
        is("how many", 4, x.kept(0));
        is("who", 120, x.kept(1));
        HandRing y = underLaw(crowd(7), "bars if one<3 and other>2;bars if other=6");
        is("the lowest as bits", 3, y.kept(0));
        is("the lowest as bits", 7, y.kept(1));
        is("all", 255, crowd(8).kept(1));
        is("none", NONE, crowd(2).kept(0));
        is("none", NONE, underLaw(crowd(8), "bars if one>0").kept(1));
        is("no such", NONE, crowd(8).kept(2));
        is("no such", NONE, crowd(8).kept(-1));
    }

    private static void two() {
        due.part("promise 26");
        HandRing x = with(0, 4, 0, 20, 4, 0, 0, 4, 0, 21, 4, 0, 1, 4, 0, 20, 4, 0);
        is("lost", 4, x.two(0));
        is("who", 1 | 4 | 16, x.two(1));
        is("the lowest", 7, crowd(6).two(1));
        is("the lowest", 7, crowd(8).two(1));
        is("lost", 0, crowd(8).two(0));
        is("seven: three and four", 9, underLaw(crowd(7), "loses 1;loses 2 if one=0").two(0));
        is("five people", NONE, crowd(5).two(0));
        is("one part can't", NONE, underLaw(crowd(6), "bars if one=0").two(0));
        is("one part can't", NONE, underLaw(crowd(6), "bars if one=0").two(1));
        is("no such", NONE, crowd(6).two(2));
        is("no such", NONE, crowd(6).two(-1));
    }

    private static void stays() {
        due.part("promise 27");
        is("a row of five", 2 | 4 | 8, underLaw(crowd(5), "bars if other>one+1").stays());
        is("a ring", 0, crowd(5).stays());
        is("a star", 1, underLaw(crowd(5), "bars if one>0").stays());
        is("a bow tie", 4, underLaw(crowd(5), "bars if not (one<2 and other<3) and not (one>1 and other>2)").stays());
        is("apart already", 2, underLaw(crowd(5), "bars if one=2 or one=3 or one<2 and not other=one+1 or other>2").stays());
        is("nobody", 0, new HandRing().stays());
        is("two", 0, crowd(2).stays());
        is("three in a row", 2, with(0, 0, 0, 1, 1, 0, 2, 0, 0).stays());
    }

    private static void seen() {
        due.part("promises 28 and 29");
        HandRing x = crowd(4);
        is("seen", 1, x.seen(0, 1, 1));
        is("again", 2, x.seen(1, 0, 1));
        is("not", 3, x.seen(2, 3, 0));
        is("itself", -1, x.seen(2, 2, 0));
        is("itself, nobody", -1, x.seen(9, 9, 0));
        is("is", -1, x.seen(0, 1, 2));
        is("is, nobody", -1, x.seen(0, 9, -1));
        is("nobody", -2, x.seen(0, 4, 0));
        is("nobody", -2, x.seen(-1, 2, 0));
        for (int i = 4; i <= 6; i++) {
            is("seen", i, x.seen(2, 3, 0));
        }
        is("no room", -5, x.seen(2, 3, 0));
        is("nobody ahead of no room", -2, x.seen(2, 4, 0));
        is("count(2)", 6, x.count(2));
        is("0 next to 1, 2 not next to 3", 0, x.fits(0));
        is("forget", 6, x.forget());
        is("forget", 0, x.forget());
        is("count(2)", 0, x.count(2));
        is("fits", 3, x.fits(0));
    }

    private static void fits() {
        due.part("promise 30");
        HandRing x = crowd(5);
        is("all", 12, x.fits(0));
        x.seen(0, 1, 1);
        is("next to one another", 6, x.fits(0));
        rowIs("the first", new int[] {0, 1, 2, 3, 4}, k -> x.fits(1 + k));
        x.seen(1, 2, 0);
        is("and not", 4, x.fits(0));
        rowIs("the first", new int[] {0, 1, 3, 2, 4}, k -> x.fits(1 + k));
        x.seen(0, 1, 0);
        is("both can't be", 0, x.fits(0));
        is("none", NONE, x.fits(1));
        HandRing y = crowd(4);
        y.seen(0, 1, 1);
        y.seen(0, 2, 1);
        y.seen(0, 3, 1);
        is("three are too many", 0, y.fits(0));
        y.seen(1, 2, 1);
        y.seen(1, 3, 1);
        underLaw(y, "bars");
        is("five, and no ring", 0, y.fits(0));
        is("five, and no ring", NONE, y.fits(1));
        HandRing t = crowd(3);
        t.seen(0, 1, 1);
        t.seen(1, 2, 1);
        t.seen(0, 2, 1);
        t.seen(2, 0, 1);
        is("all of it was seen", 1, t.fits(0));
        rowIs("all of it was seen", new int[] {0, 1, 2}, k -> t.fits(1 + k));
        is("all of it was seen", 1, t.ask(0));
        HandRing z = underLaw(crowd(5), "bars if one=0 and other=1");
        z.seen(0, 1, 1);
        is("barred", 0, z.fits(0));
        is("two people", 0, crowd(2).fits(0));
        is("two people", NONE, crowd(2).fits(1));
        is("no such", NONE, crowd(5).fits(-1));
        is("no such", NONE, crowd(5).fits(6));
        is("no such", NONE, crowd(5).fits(Integer.MIN_VALUE));
    }

    private static void ask() {
        due.part("promise 31");
        HandRing x = crowd(5);
        is("each two are in half", 1, x.ask(0));
        is("left", 6, x.ask(1));
        x.seen(0, 1, 1);
        is("0 and 1 are known to be, 0 and 2 are in 2 of 6, 2 and 3 in 4", 2, x.ask(0));
        is("left", 4, x.ask(1));
        HandRing y = crowd(4);
        y.seen(0, 1, 1);
        is("two rings", 2, y.fits(0));
        is("0 and 2 parts them", 2, y.ask(0));
        is("left", 1, y.ask(1));
        y.seen(0, 2, 1);
        is("one ring", 1, y.ask(0));
        is("one left", 1, y.ask(1));
        y.seen(0, 3, 1);
        is("none", NONE, y.ask(0));
        is("none", NONE, y.ask(1));
        is("no such", NONE, x.ask(2));
        is("no such", NONE, x.ask(-1));
        is("two people", NONE, crowd(2).ask(0));
        HandRing z = crowd(4);
        z.seen(0, 1, 1);
        z.seen(0, 2, 1);
        z.seen(0, 3, 1);
        z.seen(1, 2, 1);
        z.seen(1, 3, 1);
        underLaw(z, "bars");
        is("five seen, and no ring", NONE, z.ask(0));
    }

    private static void few() {
        due.part("promise 32");
        HandRing x = new HandRing();
        is("no holds", 1000000000000L, x.few(1, 0));
        is("one", 900000000000L, x.few(1, 1));
        is("fewer than 20 of 12", 1000000000000L, x.few(20, 12));
        is("cut", 254186582832L, x.few(1, 13));
        is("cut", 121576654587L, x.few(1, 20));
        is("cut", 998255635351L, x.few(20, 99));
        x.terms(1, 3);
        is("cut", 47475615098L, x.few(2, 14));
        is("cut", 2113178136L, x.few(3, 30));
        x.terms(1, 5);
        is("cut", 200L, x.few(20, 99));
        x.terms(1, 10);
        is("all slip", 0, x.few(5, 5));
        is("all slip", 1000000000000L, x.few(6, 5));
        x.terms(1, 0);
        is("none slips", 1000000000000L, x.few(1, 99));
        is("k", NONE, x.few(0, 5));
        is("k", NONE, x.few(21, 5));
        is("n", NONE, x.few(1, -1));
        is("n", NONE, x.few(1, 100));
    }

    private static void compare() {
        due.part("promise 33");
        HandRing x = underLaw(with(0, 4, 0, 1, 4, 0, 2, 4, 0), "loses 2");
        Due.law(x, "bars");
        is("in force", 6, x.ring(0));
        is("none", 4, x.compare(NONE));
        is("the same", 6, x.compare(0));
        is("no ring", NONE, x.compare(1));
        is("no such", NONE, x.compare(2));
        is("no such", NONE, x.compare(-2));
        is("what is in force stays", 0, x.count(11));
        x.force(1);
        is("by another one", 6, x.compare(0));
        is("two people", NONE, crowd(2).compare(NONE));
    }

    private static void days() {
        due.part("promises 34 and 35");
        HandRing x = with(0, 4, 0, 1, 4, 1, 2, 4, 2);
        is("seed", -1, x.days(-1, 1));
        is("seed", -1, x.days(1000001, 1));
        is("the highest seed", 0, x.days(1000000, 1));
        x = with(0, 4, 0, 1, 4, 1, 2, 4, 2);
        is("n", -1, x.days(0, 0));
        is("n", -1, x.days(0, 61));
        is("nobody", -3, new HandRing().days(0, 1));
        is("nobody and a number", -1, new HandRing().days(0, 0));
        is("none was drawn", NONE, x.drawn(0, 0));
        // by seed 1: 2, 2, 2 (walk the third way: the edge); 0, 2, 0 (take); 2, 0, 0 (they do already)
        is("a hold", 1, x.days(1, 3));
        is("with whom", 4, x.drawn(0, 2));
        is("with whom", 1, x.drawn(2, 2));
        is("cell", 2, x.drawn(2, 0));
        // then 0, 2, 2 (walk down: the edge); 2, 0, 2 (walk up)
        is("and a step", 1, x.days(1, 5));
        is("cell", 7, x.drawn(2, 0));
        is("on paper", 2, x.of(2, 0));
        is("on paper", 0, x.count(12));
        is("on paper", 0, x.count(1));
        is("on paper", 0, x.count(4));
        // by seed 10: 2, 0, 0 (take); 2, 2, 0 (itself); 2, 1, 0 (take)
        is("two holds", 2, x.days(10, 3));
        is("with whom", 3, x.drawn(2, 2));
        underLaw(x, "tires 1;bars if far=1 and day>1");
        is("tired, barred", 1, x.days(10, 3));
        is("reach", 1, x.drawn(0, 1));
        is("refused", -1, x.days(10, 61));
        is("the latest stays", 1, x.drawn(0, 1));
        x.terms(0, 998);
        is("it ends at 999", 1, x.days(10, 3));
        is("reach", 3, x.drawn(0, 1));
        x.terms(0, 999);
        is("it ends at once", 0, x.days(10, 60));
        is("reach", 4, x.drawn(0, 1));
        x.person(0, 0, 0);
        is("one who was not there", NONE, x.drawn(3, 0));
        is("no such", NONE, x.drawn(-1, 0));
        is("no such", NONE, x.drawn(0, 3));
        is("no such", NONE, x.drawn(0, -1));
    }

    private static void images() {
        due.part("promises 36 and 37");
        HandRing x = underLaw(crowd(3), "loses 1");
        is("not kept", -2, x.back(0));
        is("no such", -1, x.image(2));
        is("no such", -1, x.image(-1));
        is("no such", -1, x.back(2));
        is("no such", -1, x.back(-1));
        x.take(0, 1);
        x.seen(0, 1, 1);
        x.terms(3, 7);
        is("image", 0, x.image(0));
        Due.law(x, "loses 2");
        x.force(1);
        x.seen(0, 2, 1);
        x.take(1, 2);
        x.person(4, 1, 1);
        x.walk(3, 1);
        x.pass();
        x.terms(3, 8);
        x.days(3, 4);
        Due.put(x, "\0");
        x.row();
        Due.orders(x, "take 1 with 1");
        Due.law(x, "lo");
        Due.put(x, "bars");
        is("image", 0, x.image(1));
        int reach = x.drawn(3, 1);
        is("back", 0, x.back(0));
        int[] then = {3, 1, 1, 1, 0, 4, 4, 1, 1, 0, 1, 0, 0, 1, 0, 7};
        for (int i = 0; i < then.length; i++) {
            is("count(" + i + ")", then[i], x.count(i));
        }
        is("nothing can be undone", -3, x.undo());
        is("fault stays", 0, x.fault());
        is("stopped stays", 0, x.stopped());
        is("gaps stay", 1, x.gaps());
        is("the latest days stay", reach, x.drawn(3, 1));
        is("hands", 2, x.of(0, 3));
        is("nobody", NONE, x.of(3, 0));
        is("another law in its place", 1, x.law());
        is("back", 0, x.back(1));
        is("people", 4, x.count(0));
        is("cell", 9, x.of(3, 0));
        is("the law as it was", 2, x.asks(0, 1, 1));
        is("lost", 0, x.asks(0, 1, 2));
        is("images stay", 0, x.back(0));
        is("image anew", 0, x.image(1));
        is("back", 0, x.back(1));
        is("people", 3, x.count(0));
        x.take(0, 2);
        is("back", 0, x.back(1));
        is("nothing can be undone", 0, x.count(4));
        is("hands", 2, x.of(0, 3));
        HandRing y = with(0, 4, 3, 0, 4, 2, 0, 4, 1, 0, 4, 0);
        y.image(1);
        y.seen(0, 1, 1);
        y.seen(1, 2, 0);
        y.image(0);
        y.back(1);
        is("kind", 2, y.of(1, 2));
        y.seen(2, 3, 0);
        y.seen(0, 3, 1);
        is("another ring", 3, y.fits(4));
        y.back(0);
        is("what was seen then", 1, y.fits(0));
        rowIs("what was seen then", new int[] {0, 1, 3, 2}, k -> y.fits(1 + k));
        HandRing w = with(0, 4, 3);
        w.image(0);
        w.person(1, 1, 1);
        w.image(1);
        w.back(0);
        w.person(2, 2, 2);
        w.back(1);
        is("the other one's kind", 1, w.of(1, 2));
        is("the other one's cell", 1, w.of(1, 0));
        is("the other one's reach", 1, w.of(1, 1));
    }

    private static void count() {
        due.part("promise 38");
        HandRing x = crowd(4);
        x.take(0, 1);
        x.seen(0, 1, 0);
        Due.law(x, "bars");
        Due.put(x, "12345");
        x.terms(4, 4);
        x.force(4);
        x.force(5);
        x.loose(2, 3);
        x.loose(2, 3);
        x.undo();
        x.undo();
        for (int i = 0; i < 5; i++) {
            x.person(0, 0, 0);
        }
        x.end(0);
        x.row();
        x.law();
        int[] want = {8, 0, 1, 1, 0, 0, 1, 2, 3, 1, 2, NONE, 0, 1, 0, 50};
        for (int i = 0; i < want.length; i++) {
            is("count(" + i + ")", want[i], x.count(i));
        }
        for (int what : new int[] {-1, 16, Integer.MAX_VALUE, Integer.MIN_VALUE}) {
            is("count(" + what + ")", NONE, x.count(what));
        }
        Due.put(x, "12345");
        is("bytes", 5, x.count(5));
    }

    private static void status() {
        due.part("promise 39");
        HandRing x = new HandRing();
        x.undo();
        is("undo", -3, x.status());
        x.feed(0, 0, 0, 0, 0);
        x.end(99);
        x.few(0, 0);
        x.of(0, 0);
        x.forget();
        x.drawn(0, 0);
        x.compare(5);
        x.count(99);
        is("others do not count", -3, x.status());
        x.person(0, 0, 0);
        is("person", 0, x.status());
        x.person(-1, 0, 0);
        is("person", -1, x.status());
        x.terms(0, 0);
        is("terms", 0, x.status());
        x.terms(0, -1);
        is("terms", -1, x.status());
        x.row();
        is("row", 0, x.status());
        x.row();
        is("row", -6, x.status());
        x.force(NONE);
        is("force", 0, x.status());
        x.force(0);
        is("force", -2, x.status());
        x.pass();
        is("pass", 0, x.status());
        x.walk(20, 1);
        is("walk", -2, x.status());
        x.walk(0, 1);
        is("walk", 0, x.status());
        x.take(0, 0);
        is("take", -1, x.status());
        x.take(2, 1);
        is("take", 0, x.status());
        x.loose(0, 2);
        is("loose", -3, x.status());
        x.loose(2, 1);
        is("loose", 0, x.status());
        x.seen(0, 1, 7);
        is("seen", -1, x.status());
        x.seen(0, 1, 1);
        is("seen", 0, x.status());
        x.days(0, 0);
        is("days", -1, x.status());
        x.days(0, 1);
        is("days", 0, x.status());
        x.back(1);
        is("back", -2, x.status());
        x.image(1);
        is("image", 0, x.status());
        x.image(2);
        is("image", -1, x.status());
        x.back(1);
        is("back", 0, x.status());
        Due.orders(x, "take 0 with 0");
        is("orders", -3, x.status());
        Due.orders(x, "pass");
        is("orders", 0, x.status());
        x.law();
        is("law", -6, x.status());
        Due.law(x, "bars");
        is("law", 0, x.status());
    }
}
