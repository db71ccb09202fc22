/** Boundary cases of promises 6 to 9: the tape and rows of people. */
final class TapeEdges {
    private static final int NONE = HandRing.NONE;
    private static final int LOW = Integer.MIN_VALUE;
    private static final int HIGH = Integer.MAX_VALUE;

    private TapeEdges() {
    }

    private static HandRing withTape(HandRing x, int bytes) {
        for (int size = 0; size < bytes; size += 20) {
            x.feed(0, 0, 0, 0, 0);
        }
        x.end(bytes);
        return x;
    }

    private static int row(HandRing x, int... bytes) {
        StringBuilder text = new StringBuilder();
        for (int b : bytes) {
            text.append((char) b);
        }
        Due.put(x, text.toString());
        return x.row();
    }

    static void promise6_theTapeHas400BytesAtMost(Due due) {
        HandRing x = new HandRing();
        for (int size = 20; size <= 400; size += 20) {
            due.same("feed", size, x.feed(1, 2, 3, 4, 5));
        }
        due.same("a twenty-first time", NONE, x.feed(1, 2, 3, 4, 5));
        due.same("count(5)", 400, x.count(5));
    }

    static void promise6_380BytesAndTwentyAre400(Due due) {
        HandRing x = withTape(new HandRing(), 380);
        due.same("feed", 400, x.feed(0, 0, 0, 0, 0));
    }

    static void promise6_381BytesAndTwentyWouldBeMore(Due due) {
        HandRing x = withTape(new HandRing(), 381);
        due.same("feed", NONE, x.feed(-1, -1, -1, -1, -1));
        due.same("count(5)", 381, x.count(5));
    }

    static void promise6_wherePartOfItWouldFitNothingComes(Due due) {
        HandRing x = withTape(new HandRing(), 399);
        x.feed(-1, -1, -1, -1, -1);
        x.end(3);
        due.same("row()", 1, x.row());
        due.same("gaps()", 0, x.gaps());
    }

    static void promise6_aFullTapeIsKeptAsItWas(Due due) {
        HandRing x = new HandRing();
        x.feed(0x07020100, 0, 0, 0, 0);
        withTapeOn(x);
        x.feed(-1, -1, -1, -1, -1);
        x.end(3);
        due.same("row()", 1, x.row());
        due.same("of(0, 0)", 7, x.of(0, 0));
    }

    private static void withTapeOn(HandRing x) {
        for (int i = 1; i < 20; i++) {
            x.feed(0, 0, 0, 0, 0);
        }
    }

    static void promise6_theHighestByteIsFirst(Due due) {
        HandRing x = new HandRing();
        x.feed(0x18030201, 0x04010904, 0x03130002, 0x11010010, 0x02011203);
        x.end(18);
        due.same("row()", 6, x.row());
        int[] cells = {24, 1, 9, 19, 17, 16};
        int[] reaches = {3, 4, 4, 0, 1, 2};
        int[] kinds = {2, 1, 3, 2, 0, 1};
        for (int p = 0; p < cells.length; p++) {
            due.same("of(" + p + ", 0)", cells[p], x.of(p, 0));
            due.same("of(" + p + ", 1)", reaches[p], x.of(p, 1));
            due.same("of(" + p + ", 2)", kinds[p], x.of(p, 2));
        }
    }

    static void promise6_bytesAreFrom0To255(Due due) {
        HandRing x = new HandRing();
        x.feed(LOW, HIGH, -1, 0x80000080, 0);
        x.end(15);
        due.same("128, 255 and the like are no cell, no reach, no kind", 0, x.row());
        due.same("gaps()", 5, x.gaps());
    }

    static void promise6_itIsNoRefusal(Due due) {
        HandRing x = withTape(new HandRing(), 400);
        x.undo();
        x.feed(0, 0, 0, 0, 0);
        due.same("status()", -3, x.status());
        due.same("count(6)", 0, x.count(6));
        due.same("count(9)", 0, x.count(9));
    }

    static void promise6_itComesBehindWhatEndLeft(Due due) {
        HandRing x = new HandRing();
        x.feed(0x05010200, 0, 0, 0, 0);
        x.end(3);
        due.same("feed", 23, x.feed(0x06020300, 0, 0, 0, 0));
        x.end(6);
        due.same("row()", 2, x.row());
        due.same("of(1, 0)", 6, x.of(1, 0));
    }

    static void promise7_ofAnEmptyTape(Due due) {
        HandRing x = new HandRing();
        due.same("end(0)", 0, x.end(0));
        due.same("end(1)", NONE, x.end(1));
        due.same("end(-1)", NONE, x.end(-1));
    }

    static void promise7_asManyAsItHas(Due due) {
        HandRing x = withTape(new HandRing(), 20);
        due.same("end(20)", 20, x.end(20));
        due.same("count(5)", 20, x.count(5));
    }

    static void promise7_oneMoreThanItHas(Due due) {
        HandRing x = withTape(new HandRing(), 20);
        due.same("end(21)", NONE, x.end(21));
        due.same("end(400)", NONE, x.end(400));
        due.same("end of the highest number", NONE, x.end(HIGH));
        due.same("count(5)", 20, x.count(5));
    }

    static void promise7_below0(Due due) {
        HandRing x = withTape(new HandRing(), 20);
        due.same("end(-1)", NONE, x.end(-1));
        due.same("end of the lowest number", NONE, x.end(LOW));
        due.same("count(5)", 20, x.count(5));
    }

    static void promise7_ofAFullTape(Due due) {
        HandRing x = withTape(new HandRing(), 400);
        due.same("end(401)", NONE, x.end(401));
        due.same("end(400)", 400, x.end(400));
        due.same("end(399)", 399, x.end(399));
    }

    static void promise7_whatWasCutIsGone(Due due) {
        HandRing x = withTape(new HandRing(), 20);
        due.same("end(7)", 7, x.end(7));
        due.same("end(8)", NONE, x.end(8));
        due.same("count(5)", 7, x.count(5));
    }

    static void promise7_allOfIt(Due due) {
        HandRing x = withTape(new HandRing(), 20);
        due.same("end(0)", 0, x.end(0));
        due.same("row()", -6, x.row());
    }

    static void promise7_itIsNoRefusal(Due due) {
        HandRing x = new HandRing();
        x.undo();
        x.end(-1);
        x.end(1);
        due.same("status()", -3, x.status());
        due.same("count(6)", 0, x.count(6));
    }

    static void promise8_anEmptyTapeIsRefused(Due due) {
        HandRing x = new HandRing();
        due.same("row()", -6, x.row());
        due.same("status()", -6, x.status());
        due.same("count(10)", 1, x.count(10));
    }

    static void promise8_refusedItChangesNothing(Due due) {
        HandRing x = Scene.ringOf(4);
        row(x, 0, 0);
        x.walk(0, 1);
        String ahead = Scene.picture(x);
        x.row();
        due.same("all behind it", ahead, Scene.picture(x));
    }

    static void promise8_theTapeIsEmptyThen(Due due) {
        HandRing x = withTape(new HandRing(), 20);
        x.row();
        due.same("count(5)", 0, x.count(5));
        due.same("row()", -6, x.row());
    }

    static void promise8_theTapeEndsWithinOne(Due due) {
        HandRing x = new HandRing();
        due.same("one byte", 0, row(x, 1));
        due.same("gaps()", 1, x.gaps());
        due.same("two bytes", 0, row(x, 1, 1));
        due.same("gaps()", 1, x.gaps());
        due.same("three bytes", 1, row(x, 1, 1, 1));
        due.same("gaps()", 0, x.gaps());
        due.same("five bytes", 1, row(x, 1, 1, 1, 1, 1));
        due.same("gaps()", 1, x.gaps());
        due.same("count(0)", 2, x.count(0));
    }

    static void promise8_whatWasOnTheTapeBeforeIsNotReadBehindItsEnd(Due due) {
        HandRing x = new HandRing();
        row(x, 1, 1, 1, 2, 2, 2);
        due.same("four bytes", 1, row(x, 3, 3, 3, 4));
        due.same("gaps()", 1, x.gaps());
    }

    static void promise8_oneThatCanNotBeIsNobody(Due due) {
        int[][] bad = {{25, 0, 0}, {255, 0, 0}, {0, 5, 0}, {0, 255, 0}, {0, 0, 4}, {0, 0, 255}, {128, 128, 128}};
        for (int[] b : bad) {
            HandRing x = new HandRing();
            due.same("row of " + b[0] + " " + b[1] + " " + b[2], 0, row(x, b));
            due.same("gaps()", 1, x.gaps());
            due.same("count(0)", 0, x.count(0));
            due.same("status()", 0, x.status());
            due.same("count(6)", 0, x.count(6));
        }
    }

    static void promise8_theHighestThatCanBe(Due due) {
        HandRing x = new HandRing();
        due.same("row of 24 4 3", 1, row(x, 24, 4, 3));
        due.same("of(0, 0)", 24, x.of(0, 0));
        due.same("of(0, 1)", 4, x.of(0, 1));
        due.same("of(0, 2)", 3, x.of(0, 2));
    }

    static void promise8_behindAGapItGoesOn(Due due) {
        HandRing x = new HandRing();
        due.same("row", 2, row(x, 25, 0, 0, 6, 1, 2, 0, 5, 0, 7, 2, 3));
        due.same("gaps()", 2, x.gaps());
        due.same("of(0, 0)", 6, x.of(0, 0));
        due.same("of(1, 0)", 7, x.of(1, 0));
    }

    static void promise8_oneForWhomThereIsNoRoomIsAGap(Due due) {
        HandRing x = Scene.crowd(7);
        due.same("row of three", 1, row(x, 9, 1, 1, 10, 1, 1, 11, 1, 1));
        due.same("gaps()", 2, x.gaps());
        due.same("of(7, 0)", 9, x.of(7, 0));
        due.same("count(0)", 8, x.count(0));
        due.same("status()", 0, x.status());
        due.same("count(9)", 0, x.count(9));
    }

    static void promise8_aFullVillageIsNoRefusal(Due due) {
        HandRing x = Scene.crowd(8);
        due.same("row of one", 0, row(x, 9, 1, 1));
        due.same("status()", 0, x.status());
    }

    static void promise8_aFullTape(Due due) {
        HandRing x = withTape(new HandRing(), 400);
        due.same("row()", 8, x.row());
        due.same("133 threes and a byte", 126, x.gaps());
    }

    static void promise8_nothingAheadOfItCanBeUndone(Due due) {
        HandRing x = Scene.ringOf(3);
        due.same("row of a gap alone", 0, row(x, 255));
        due.same("count(4)", 0, x.count(4));
    }

    static void promise9_0AheadOfAnyRow(Due due) {
        due.same("gaps()", 0, new HandRing().gaps());
        HandRing x = new HandRing();
        x.row();
        due.same("gaps() behind a refused one", 0, x.gaps());
    }

    static void promise9_aRefusedRowLeavesIt(Due due) {
        HandRing x = new HandRing();
        row(x, 255, 255, 255, 255);
        due.same("gaps()", 2, x.gaps());
        x.row();
        due.same("gaps() behind a refused one", 2, x.gaps());
    }

    static void promise9_aRowWithoutGapsHasNone(Due due) {
        HandRing x = new HandRing();
        row(x, 255);
        row(x, 1, 1, 1);
        due.same("gaps()", 0, x.gaps());
    }

    static void promise9_imagesDoNotKeepIt(Due due) {
        HandRing x = new HandRing();
        x.image(0);
        row(x, 255);
        x.back(0);
        due.same("gaps()", 1, x.gaps());
    }

    static void promise9_textsLeaveIt(Due due) {
        HandRing x = new HandRing();
        row(x, 255);
        Due.law(x, "bars");
        Due.law(x, "bar");
        Due.orders(x, "pass");
        due.same("gaps()", 1, x.gaps());
    }
}
