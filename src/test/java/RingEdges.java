import java.util.function.IntUnaryOperator;

/** Boundary cases of promises 21 to 27 and 33: rings on paper, people without whom others fall apart. */
final class RingEdges {
    private static final int NONE = HandRing.NONE;
    private static final int LOW = Integer.MIN_VALUE;
    private static final int HIGH = Integer.MAX_VALUE;

    private RingEdges() {
    }

    /** What 1 + k answers is who is k-th; ahead of 0 and behind the last there is none. */
    private static void row(Due due, String call, int[] want, IntUnaryOperator asked) {
        for (int k = 0; k < want.length; k++) {
            due.same(call + "(" + (1 + k) + ")", want[k], asked.applyAsInt(1 + k));
        }
        for (int what : new int[] {-1, -2, LOW, 1 + want.length, 9, HIGH}) {
            due.same(call + "(" + what + ")", NONE, asked.applyAsInt(what));
        }
    }

    private static void none(Due due, String call, IntUnaryOperator asked) {
        for (int what : new int[] {0, 1, 2, 3, 8, 9, -1}) {
            due.same(call + "(" + what + ")", NONE, asked.applyAsInt(what));
        }
    }

    private static final int[] THREE = {0, 1, 2};
    private static final int[] EIGHT = {0, 1, 2, 3, 4, 5, 6, 7};

    static void promise21_fewerThanThree(Due due) {
        none(due, "ring", new HandRing()::ring);
        none(due, "ring", Scene.crowd(1)::ring);
        none(due, "ring", Scene.crowd(2)::ring);
    }

    static void promise21_three(Due due) {
        HandRing x = Scene.crowd(3);
        due.same("ring(0)", 0, x.ring(0));
        row(due, "ring", THREE, x::ring);
    }

    static void promise21_eight(Due due) {
        HandRing x = Scene.under(Scene.crowd(8), "loses 9");
        due.same("ring(0)", 72, x.ring(0));
        row(due, "ring", EIGHT, x::ring);
    }

    static void promise21_thereIsNone(Due due) {
        none(due, "ring", Scene.under(Scene.crowd(8), "bars")::ring);
        none(due, "ring", Scene.under(Scene.crowd(4), "bars if one=0 and other>1")::ring);
        none(due, "ring", Scene.with(0, 0, 0, 0, 0, 0, 1, 0, 0)::ring);
    }

    static void promise21_ofThoseInWhichAsLittleIsLostTheFirst(Due due) {
        // 0, 1, 3, 2 and 0, 2, 1, 3
        HandRing x = Scene.under(Scene.crowd(4), "loses 1;loses 0 if one=0 and other=2");
        due.same("ring(0)", 3, x.ring(0));
        row(due, "ring", new int[] {0, 1, 3, 2}, x::ring);
        HandRing y = Scene.under(Scene.crowd(5), "loses 5");
        row(due, "ring", new int[] {0, 1, 2, 3, 4}, y::ring);
    }

    static void promise21_lessIsLostGoesAheadOfTheFirstRow(Due due) {
        HandRing x = Scene.under(Scene.crowd(4), "loses 1;loses 9 if one=0 and other=1");
        due.same("ring(0)", 4, x.ring(0));
        row(due, "ring", new int[] {0, 2, 1, 3}, x::ring);
    }

    static void promise21_holdsDoNotMatter(Due due) {
        HandRing x = Scene.crowd(4);
        x.take(0, 2);
        x.take(2, 1);
        row(due, "ring", new int[] {0, 1, 2, 3}, x::ring);
        due.same("count(1)", 2, x.count(1));
    }

    static void promise22_fewerThanThree(Due due) {
        due.same("nobody", 0, new HandRing().rings());
        due.same("one", 0, Scene.crowd(1).rings());
        due.same("two", 0, Scene.crowd(2).rings());
    }

    static void promise22_theSameFromWhereverAndEitherWayRound(Due due) {
        due.same("three", 1, Scene.crowd(3).rings());
        due.same("four", 3, Scene.crowd(4).rings());
        due.same("eight", 2520, Scene.crowd(8).rings());
    }

    static void promise22_thereIsNone(Due due) {
        due.same("all barred", 0, Scene.under(Scene.crowd(8), "bars").rings());
        due.same("one too far", 0, Scene.with(0, 4, 0, 0, 4, 0, 0, 4, 0, 24, 0, 0).rings());
    }

    static void promise22_oneAlone(Due due) {
        due.same("a ring of eight", 1, Scene.under(Scene.crowd(8), "bars if not (other=one+1 or other=one+7)").rings());
    }

    static void promise22_asFarAsBothReach(Due due) {
        due.same("far 2, reach 2", 1, Scene.with(0, 1, 0, 1, 1, 0, 2, 1, 0).rings());
        due.same("far 2, reach 1", 0, Scene.with(0, 1, 0, 1, 1, 0, 2, 0, 0).rings());
    }

    static void promise23_fewerThanThree(Due due) {
        none(due, "narrow", new HandRing()::narrow);
        none(due, "narrow", Scene.crowd(1)::narrow);
        none(due, "narrow", Scene.crowd(2)::narrow);
    }

    static void promise23_three(Due due) {
        HandRing x = Scene.under(Scene.crowd(3), "loses one+other");
        due.same("narrow(0)", 3, x.narrow(0));
        row(due, "narrow", THREE, x::narrow);
    }

    static void promise23_eight(Due due) {
        HandRing x = Scene.under(Scene.crowd(8), "loses 9");
        due.same("narrow(0)", 9, x.narrow(0));
        row(due, "narrow", EIGHT, x::narrow);
    }

    static void promise23_nothingIsLost(Due due) {
        HandRing x = Scene.crowd(4);
        due.same("narrow(0)", 0, x.narrow(0));
        row(due, "narrow", new int[] {0, 1, 2, 3}, x::narrow);
    }

    static void promise23_thereIsNone(Due due) {
        none(due, "narrow", Scene.under(Scene.crowd(8), "bars")::narrow);
        none(due, "narrow", Scene.with(0, 0, 0, 0, 0, 0, 1, 0, 0)::narrow);
    }

    static void promise23_theFirstThoughMoreIsLostTogether(Due due) {
        // 5 is lost twice in 0, 1, 2, 3 and once in 0, 2, 1, 3
        HandRing x = Scene.under(Scene.crowd(4), "loses 5 if other=1;loses 5 if one=2;loses 5 if one=0 and other=2");
        due.same("narrow(0)", 5, x.narrow(0));
        due.same("ring(0)", 5, x.ring(0));
        row(due, "ring", new int[] {0, 2, 1, 3}, x::ring);
        row(due, "narrow", new int[] {0, 1, 2, 3}, x::narrow);
    }

    static void promise23_theWorstIsBestThoughMoreIsLostTogether(Due due) {
        // 9 is lost once in 0, 1, 2, 3, and 6 twice in 0, 1, 3, 2
        HandRing x = Scene.under(Scene.crowd(4),
            "loses 6 if one=0 and other=2;loses 6 if one=1 and other=3;loses 9 if one=1 and other=2");
        due.same("ring(0)", 9, x.ring(0));
        row(due, "ring", new int[] {0, 1, 2, 3}, x::ring);
        due.same("narrow(0)", 6, x.narrow(0));
        row(due, "narrow", new int[] {0, 1, 3, 2}, x::narrow);
    }

    static void promise24_fewerThanThree(Due due) {
        none(due, "gloves", new HandRing()::gloves);
        none(due, "gloves", Scene.crowd(1)::gloves);
        none(due, "gloves", Scene.crowd(2)::gloves);
    }

    static void promise24_noneAreNeeded(Due due) {
        HandRing x = Scene.crowd(3);
        due.same("gloves(0)", 0, x.gloves(0));
        row(due, "gloves", THREE, x::gloves);
    }

    static void promise24_oneForEachHold(Due due) {
        HandRing x = Scene.under(Scene.crowd(8), "bars");
        due.same("gloves(0)", 8, x.gloves(0));
        row(due, "gloves", EIGHT, x::gloves);
    }

    static void promise24_tooFarForGloves(Due due) {
        none(due, "gloves", Scene.with(0, 0, 0, 0, 0, 0, 1, 0, 0)::gloves);
        HandRing x = Scene.under(Scene.with(0, 1, 0, 1, 1, 0, 2, 1, 0), "bars");
        due.same("as far as both reach", 3, x.gloves(0));
    }

    static void promise24_theFewestGoAheadOfTheFirstRow(Due due) {
        HandRing x = Scene.under(Scene.crowd(4), "bars if one=0 and other=1");
        due.same("gloves(0)", 0, x.gloves(0));
        row(due, "gloves", new int[] {0, 2, 1, 3}, x::gloves);
    }

    static void promise24_whatIsLostDoesNotMatter(Due due) {
        HandRing x = Scene.under(Scene.crowd(4), "loses 9 if one=0 and other=1");
        row(due, "gloves", new int[] {0, 1, 2, 3}, x::gloves);
    }

    static void promise25_whatIs0And1(Due due) {
        HandRing x = Scene.crowd(3);
        for (int what : new int[] {-1, 2, LOW, HIGH}) {
            due.same("kept(" + what + ")", NONE, x.kept(what));
        }
    }

    static void promise25_noRingOfAny(Due due) {
        HandRing[] without = {new HandRing(), Scene.crowd(1), Scene.crowd(2), Scene.under(Scene.crowd(8), "bars"),
            Scene.under(Scene.crowd(8), "bars if one>0")};
        for (HandRing x : without) {
            due.same("kept(0)", NONE, x.kept(0));
            due.same("kept(1)", NONE, x.kept(1));
        }
    }

    static void promise25_threeAtLeast(Due due) {
        HandRing x = Scene.under(Scene.crowd(8),
            "bars if not (one=1 and other=4) and not (one=1 and other=6) and not one=4");
        due.same("kept(0)", 3, x.kept(0));
        due.same("kept(1)", 2 | 16 | 64, x.kept(1));
    }

    static void promise25_all(Due due) {
        due.same("three", 7, Scene.crowd(3).kept(1));
        due.same("eight", 8, Scene.crowd(8).kept(0));
        due.same("eight", 255, Scene.crowd(8).kept(1));
    }

    static void promise25_ofAsManyTheLowestAsBits(Due due) {
        HandRing x = Scene.under(Scene.crowd(6), "bars if one<3 and other>2");
        due.same("kept(0)", 3, x.kept(0));
        due.same("kept(1)", 7, x.kept(1));
    }

    static void promise25_moreGoAheadOfTheLowest(Due due) {
        HandRing x = Scene.under(Scene.crowd(7), "bars if one<3 and other>2");
        due.same("kept(0)", 4, x.kept(0));
        due.same("kept(1)", 120, x.kept(1));
    }

    static void promise26_whatIs0And1(Due due) {
        HandRing x = Scene.crowd(6);
        for (int what : new int[] {-1, 2, LOW, HIGH}) {
            due.same("two(" + what + ")", NONE, x.two(what));
        }
    }

    static void promise26_fewerThanSix(Due due) {
        for (int n = 0; n <= 5; n++) {
            due.same("two(0) of " + n, NONE, Scene.crowd(n).two(0));
            due.same("two(1) of " + n, NONE, Scene.crowd(n).two(1));
        }
    }

    static void promise26_six(Due due) {
        due.same("two(0)", 0, Scene.crowd(6).two(0));
        due.same("two(1)", 7, Scene.crowd(6).two(1));
    }

    static void promise26_eight(Due due) {
        HandRing x = Scene.under(Scene.crowd(8), "loses 9");
        due.same("two(0)", 72, x.two(0));
        due.same("two(1)", 7, x.two(1));
    }

    static void promise26_fiveWithPerson0(Due due) {
        HandRing x = Scene.under(Scene.crowd(8), "bars if one<5 and other>4");
        due.same("two(0)", 0, x.two(0));
        due.same("two(1)", 31, x.two(1));
    }

    static void promise26_thatWithPerson0ThoughTheOtherIsLower(Due due) {
        HandRing x = Scene.under(Scene.crowd(6), "bars if one=0 and other<4;bars if one>0 and one<4 and other>3");
        due.same("two(0)", 0, x.two(0));
        due.same("two(1)", 1 | 16 | 32, x.two(1));
    }

    static void promise26_oneOfBothHasNoRing(Due due) {
        HandRing x = Scene.under(Scene.crowd(6), "bars if one=0");
        due.same("two(0)", NONE, x.two(0));
        due.same("two(1)", NONE, x.two(1));
        due.same("five and one", NONE, Scene.under(Scene.crowd(6), "bars if other=5").two(1));
        due.same("four and two", NONE, Scene.under(Scene.crowd(6), "bars if one<4 and other>3").two(1));
    }

    static void promise26_aRingOfAllIsNotNeeded(Due due) {
        HandRing x = Scene.under(Scene.crowd(6), "bars if one<3 and other>2");
        due.same("ring(0)", NONE, x.ring(0));
        due.same("two(1)", 7, x.two(1));
    }

    static void promise26_lessIsLostGoesAheadOfTheLowest(Due due) {
        HandRing x = Scene.under(Scene.crowd(6), "loses 1;loses 0 if [other-one]%2=0");
        due.same("two(0)", 0, x.two(0));
        due.same("two(1)", 1 | 4 | 16, x.two(1));
    }

    static void promise27_nobodyOneAndTwo(Due due) {
        due.same("nobody", 0, new HandRing().stays());
        due.same("one", 0, Scene.crowd(1).stays());
        due.same("two", 0, Scene.crowd(2).stays());
    }

    static void promise27_threeInARow(Due due) {
        due.same("stays()", 2, Scene.under(Scene.crowd(3), "bars if other>one+1").stays());
        due.same("a ring of three", 0, Scene.crowd(3).stays());
    }

    static void promise27_whoAreApartAlreadyDoNotCount(Due due) {
        due.same("all apart", 0, Scene.under(Scene.crowd(8), "bars").stays());
        due.same("two twos", 0, Scene.under(Scene.crowd(4), "bars if one<2 and other>1").stays());
        due.same("a three and a three", 2 | 16,
            Scene.under(Scene.crowd(6), "bars if other>one+1 or one=2 and other=3").stays());
    }

    static void promise27_oneForAll(Due due) {
        due.same("a star round 0", 1, Scene.under(Scene.crowd(8), "bars if one>0").stays());
        due.same("a star round 7", 128, Scene.under(Scene.crowd(8), "bars if other<7").stays());
        due.same("a row of eight", 126, Scene.under(Scene.crowd(8), "bars if other>one+1").stays());
    }

    static void promise27_asFarAsBothReach(Due due) {
        due.same("far 1, reach 1", 2, Scene.with(0, 0, 0, 1, 1, 0, 2, 0, 0).stays());
        due.same("far 2, reach 2", 0, Scene.with(0, 1, 0, 1, 1, 0, 2, 1, 0).stays());
    }

    static void promise33_noSuchLaw(Due due) {
        HandRing x = Scene.crowd(3);
        due.same("compare(0) without laws", NONE, x.compare(0));
        Due.law(x, "loses 2");
        due.same("compare(0)", 6, x.compare(0));
        for (int law : new int[] {1, 6, -2, LOW, HIGH}) {
            due.same("compare(" + law + ")", NONE, x.compare(law));
        }
    }

    static void promise33_thereIsNone(Due due) {
        HandRing x = Scene.crowd(3);
        Due.law(x, "bars");
        due.same("all barred", NONE, x.compare(0));
        due.same("two people", NONE, Scene.crowd(2).compare(NONE));
        due.same("nobody", NONE, new HandRing().compare(NONE));
    }

    static void promise33_noneIsWithoutALaw(Due due) {
        HandRing x = Scene.under(Scene.with(0, 4, 0, 1, 4, 0, 2, 4, 0), "loses 9");
        due.same("compare(NONE)", 4, x.compare(NONE));
        due.same("while all are barred", 4, Scene.under(x, "bars").compare(NONE));
    }

    static void promise33_theSixth(Due due) {
        HandRing x = Scene.crowd(3);
        for (int law = 0; law < 6; law++) {
            Due.law(x, "loses " + law);
        }
        due.same("compare(5)", 15, x.compare(5));
        due.same("compare(6)", NONE, x.compare(6));
    }

    static void promise33_whatIsInForceStays(Due due) {
        HandRing x = Scene.under(Scene.crowd(3), "loses 1");
        Due.law(x, "loses 2");
        due.same("compare(1)", 6, x.compare(1));
        due.same("count(11)", 0, x.count(11));
        due.same("ring(0)", 3, x.ring(0));
    }

    static void promise33_itIsNoRefusal(Due due) {
        HandRing x = new HandRing();
        x.undo();
        x.compare(3);
        due.same("status()", -3, x.status());
        due.same("count(7)", 0, x.count(7));
    }
}
