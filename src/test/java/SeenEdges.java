/** Boundary cases of promises 28 to 32: what was seen, rings that fit it, whom to ask for, how few slip. */
final class SeenEdges {
    private static final int NONE = HandRing.NONE;
    private static final int LOW = Integer.MIN_VALUE;
    private static final int HIGH = Integer.MAX_VALUE;
    private static final long ALL = 1000000000000L;

    private SeenEdges() {
    }

    static void promise28_sixAtMost(Due due) {
        HandRing x = Scene.crowd(5);
        for (int i = 1; i <= 6; i++) {
            due.same("seen " + i, i, x.seen(0, 1, 1));
        }
        due.same("a seventh", -5, x.seen(1, 2, 1));
        due.same("status()", -5, x.status());
        due.same("count(9)", 1, x.count(9));
        due.same("count(2)", 6, x.count(2));
        due.same("fits(0), without the seventh", 6, x.fits(0));
    }

    static void promise28_itself(Due due) {
        HandRing x = Scene.crowd(3);
        due.same("seen(1, 1, 1)", -1, x.seen(1, 1, 1));
        due.same("seen(3, 3, 1), nobody", -1, x.seen(3, 3, 1));
        due.same("seen(-1, -1, 0), nobody", -1, x.seen(-1, -1, 0));
        due.same("count(2)", 0, x.count(2));
    }

    static void promise28_isIs0Or1(Due due) {
        HandRing x = Scene.crowd(3);
        for (int is : new int[] {-1, 2, LOW, HIGH}) {
            due.same("seen(0, 1, " + is + ")", -1, x.seen(0, 1, is));
        }
        due.same("seen(0, 1, 0)", 1, x.seen(0, 1, 0));
        due.same("seen(0, 1, 1)", 2, x.seen(0, 1, 1));
    }

    static void promise28_aNumberThatCanNotBeIsToldAheadOfNobody(Due due) {
        HandRing x = Scene.crowd(3);
        due.same("seen(0, 3, 2)", -1, x.seen(0, 3, 2));
        due.same("seen(-1, 0, -1)", -1, x.seen(-1, 0, -1));
    }

    static void promise28_nobodyOfThatNumber(Due due) {
        HandRing x = Scene.crowd(3);
        for (int person : new int[] {-1, 3, 8, LOW, HIGH}) {
            due.same("seen(0, " + person + ", 1)", -2, x.seen(0, person, 1));
            due.same("seen(" + person + ", 0, 0)", -2, x.seen(person, 0, 0));
        }
        due.same("count(2)", 0, x.count(2));
    }

    static void promise28_theFirstInThatOrderWithoutRoom(Due due) {
        HandRing x = Scene.crowd(3);
        for (int i = 0; i < 6; i++) {
            x.seen(0, 1, 1);
        }
        due.same("itself", -1, x.seen(0, 0, 1));
        due.same("is", -1, x.seen(0, 1, 2));
        due.same("nobody", -2, x.seen(0, 3, 1));
        due.same("no room", -5, x.seen(0, 1, 1));
    }

    static void promise28_eitherOrderIsTheSameTwo(Due due) {
        HandRing x = Scene.crowd(4);
        x.seen(1, 0, 1);
        due.same("fits(0)", 2, x.fits(0));
        x.seen(3, 2, 0);
        due.same("fits(0), as 2 and 3 are next where 0 and 1 are", 0, x.fits(0));
    }

    static void promise28_thoughTheyCanNotHoldHands(Due due) {
        HandRing x = Scene.under(Scene.crowd(4), "bars if one=0 and other=1");
        due.same("seen(0, 1, 1)", 1, x.seen(0, 1, 1));
        due.same("fits(0)", 0, x.fits(0));
    }

    static void promise28_thoughThereAreTwoPeopleOnly(Due due) {
        due.same("seen(0, 1, 1)", 1, Scene.crowd(2).seen(0, 1, 1));
    }

    static void promise29_thereWasNothing(Due due) {
        HandRing x = Scene.crowd(3);
        due.same("forget()", 0, x.forget());
        due.same("count(2)", 0, x.count(2));
    }

    static void promise29_sixAndThenThereIsRoom(Due due) {
        HandRing x = Scene.crowd(4);
        for (int i = 0; i < 6; i++) {
            x.seen(0, 1, i % 2);
        }
        due.same("fits(0)", 0, x.fits(0));
        due.same("forget()", 6, x.forget());
        due.same("fits(0)", 3, x.fits(0));
        due.same("forget() again", 0, x.forget());
        due.same("seen(0, 2, 1)", 1, x.seen(0, 2, 1));
        due.same("fits(0)", 2, x.fits(0));
    }

    static void promise29_itLeavesStatus(Due due) {
        HandRing x = Scene.crowd(3);
        x.seen(0, 0, 0);
        x.forget();
        due.same("status()", -1, x.status());
    }

    static void promise30_fewerThanThree(Due due) {
        for (int n = 0; n <= 2; n++) {
            due.same("fits(0) of " + n, 0, Scene.crowd(n).fits(0));
            due.same("fits(1) of " + n, NONE, Scene.crowd(n).fits(1));
            due.same("fits(-1) of " + n, NONE, Scene.crowd(n).fits(-1));
        }
    }

    static void promise30_noneFits(Due due) {
        HandRing x = Scene.crowd(3);
        x.seen(0, 1, 0);
        due.same("fits(0)", 0, x.fits(0));
        for (int what : new int[] {1, 2, 3, 4, -1}) {
            due.same("fits(" + what + ")", NONE, x.fits(what));
        }
    }

    static void promise30_kIsWithinTheRow(Due due) {
        HandRing x = Scene.crowd(3);
        due.same("fits(0)", 1, x.fits(0));
        for (int k = 0; k < 3; k++) {
            due.same("fits(" + (1 + k) + ")", k, x.fits(1 + k));
        }
        for (int what : new int[] {4, 9, -1, LOW, HIGH}) {
            due.same("fits(" + what + ")", NONE, x.fits(what));
        }
    }

    static void promise30_nothingSeenAllFit(Due due) {
        due.same("three", 1, Scene.crowd(3).fits(0));
        due.same("eight", 2520, Scene.crowd(8).fits(0));
    }

    static void promise30_seenAndNotSeenFitsNone(Due due) {
        HandRing x = Scene.crowd(5);
        x.seen(0, 1, 1);
        x.seen(1, 0, 0);
        due.same("fits(0)", 0, x.fits(0));
        HandRing y = Scene.crowd(5);
        y.seen(1, 0, 0);
        y.seen(0, 1, 1);
        due.same("the other way round", 0, y.fits(0));
    }

    static void promise30_theSameSeenAgainChangesNothing(Due due) {
        HandRing x = Scene.crowd(5);
        x.seen(0, 1, 1);
        due.same("fits(0)", 6, x.fits(0));
        x.seen(1, 0, 1);
        x.seen(0, 1, 1);
        due.same("fits(0)", 6, x.fits(0));
    }

    static void promise30_threeNextToOneFitNone(Due due) {
        HandRing x = Scene.crowd(5);
        x.seen(0, 1, 1);
        x.seen(0, 2, 1);
        due.same("two", 2, x.fits(0));
        x.seen(0, 3, 1);
        due.same("three", 0, x.fits(0));
    }

    static void promise30_aRingOfSomeFitsNone(Due due) {
        HandRing x = Scene.crowd(5);
        x.seen(0, 1, 1);
        x.seen(1, 2, 1);
        due.same("a row", 2, x.fits(0));
        x.seen(0, 2, 1);
        due.same("a ring of three of five", 0, x.fits(0));
    }

    static void promise30_allSixSeenOfARingOfSix(Due due) {
        HandRing x = Scene.crowd(6);
        int[] round = {0, 3, 1, 5, 2, 4};
        for (int i = 0; i < 6; i++) {
            x.seen(round[i], round[(i + 1) % 6], 1);
        }
        due.same("fits(0)", 1, x.fits(0));
        for (int k = 0; k < 6; k++) {
            due.same("fits(" + (1 + k) + ")", round[k], x.fits(1 + k));
        }
    }

    static void promise30_moreSeenThanThereAreHolds(Due due) {
        HandRing x = Scene.crowd(4);
        int[][] all = {{0, 1}, {0, 2}, {0, 3}, {1, 2}, {1, 3}, {2, 3}};
        for (int[] two : all) {
            x.seen(two[0], two[1], 1);
        }
        due.same("fits(0)", 0, x.fits(0));
        due.same("fits(1)", NONE, x.fits(1));
    }

    static void promise30_theFirstThatFits(Due due) {
        HandRing x = Scene.crowd(4);
        x.seen(0, 1, 0);
        int[] row = {0, 2, 1, 3};
        due.same("fits(0)", 1, x.fits(0));
        for (int k = 0; k < 4; k++) {
            due.same("fits(" + (1 + k) + ")", row[k], x.fits(1 + k));
        }
    }

    static void promise31_whatIs0And1(Due due) {
        HandRing x = Scene.crowd(3);
        for (int what : new int[] {-1, 2, LOW, HIGH}) {
            due.same("ask(" + what + ")", NONE, x.ask(what));
        }
    }

    static void promise31_noneFits(Due due) {
        HandRing x = Scene.crowd(4);
        x.seen(0, 1, 1);
        x.seen(0, 1, 0);
        due.same("ask(0)", NONE, x.ask(0));
        due.same("ask(1)", NONE, x.ask(1));
        due.same("all barred", NONE, Scene.under(Scene.crowd(4), "bars").ask(0));
        for (int n = 0; n <= 2; n++) {
            due.same("ask(0) of " + n, NONE, Scene.crowd(n).ask(0));
            due.same("ask(1) of " + n, NONE, Scene.crowd(n).ask(1));
        }
    }

    static void promise31_oneFits(Due due) {
        HandRing x = Scene.crowd(3);
        due.same("the lowest two", 1, x.ask(0));
        due.same("one is left", 1, x.ask(1));
    }

    static void promise31_twoFit(Due due) {
        HandRing x = Scene.crowd(4);
        x.seen(0, 1, 1);
        due.same("0 and 2", 2, x.ask(0));
        due.same("one is left", 1, x.ask(1));
    }

    static void promise31_ofEight(Due due) {
        HandRing x = Scene.crowd(8);
        due.same("the lowest two", 1, x.ask(0));
        due.same("not next to one another in 1800 of 2520", 1800, x.ask(1));
    }

    static void promise31_tenTimesTheLowerAndTheHigherOne(Due due) {
        // 0 is next to 1 and to the last; each row that is seen from 1 on leaves less to ask for
        int[][] want = {{5, 12, 1}, {6, 12, 4}, {6, 23, 1}, {7, 23, 4}, {7, 34, 1}, {8, 34, 4}, {8, 45, 1}};
        for (int[] w : want) {
            int people = w[0];
            HandRing x = Scene.crowd(people);
            x.seen(people - 1, 0, 1);
            for (int i = 0; i < w[1] / 10; i++) {
                x.seen(i, i + 1, 1);
            }
            due.same("ask(0) of " + people, w[1], x.ask(0));
            due.same("ask(1) of " + people, w[2], x.ask(1));
        }
    }

    static void promise31_notTheLowestIfAnotherTwoLeaveFewer(Due due) {
        HandRing x = Scene.crowd(6);
        x.seen(0, 1, 1);
        x.seen(0, 5, 1);
        x.seen(1, 2, 0);
        due.same("fits(0)", 4, x.fits(0));
        due.same("1 and 3 are next in two of four", 13, x.ask(0));
        due.same("ask(1)", 2, x.ask(1));
    }

    static void promise31_twoWhoCanNotMayBeTheLowest(Due due) {
        HandRing x = Scene.under(Scene.crowd(4), "bars if one=0 and other=1");
        due.same("one ring", 1, x.fits(0));
        due.same("0 and 1 are next in none", 1, x.ask(0));
        due.same("ask(1)", 1, x.ask(1));
    }

    static void promise32_kIsFrom1To20(Due due) {
        HandRing x = new HandRing();
        for (int k : new int[] {0, 21, -1, LOW, HIGH}) {
            due.same("few(" + k + ", 5)", NONE, x.few(k, 5));
        }
        due.same("few(1, 5)", 590490000000L, x.few(1, 5));
        due.same("few(20, 5)", ALL, x.few(20, 5));
    }

    static void promise32_nIsFrom0To99(Due due) {
        HandRing x = new HandRing();
        for (int n : new int[] {-1, 100, LOW, HIGH}) {
            due.same("few(1, " + n + ")", NONE, x.few(1, n));
        }
        due.same("few(1, 0)", ALL, x.few(1, 0));
        x.terms(1, 0);
        due.same("few(1, 99)", ALL, x.few(1, 99));
    }

    static void promise32_ofNoHoldsNoneSlips(Due due) {
        HandRing x = new HandRing();
        x.terms(1, 10);
        due.same("few(1, 0)", ALL, x.few(1, 0));
        due.same("few(20, 0)", ALL, x.few(20, 0));
    }

    static void promise32_noneSlips(Due due) {
        HandRing x = new HandRing();
        x.terms(1, 0);
        due.same("few(1, 1)", ALL, x.few(1, 1));
        due.same("few(20, 99)", ALL, x.few(20, 99));
    }

    static void promise32_allSlip(Due due) {
        HandRing x = new HandRing();
        x.terms(1, 10);
        due.same("few(1, 1)", 0, x.few(1, 1));
        due.same("few(20, 19)", ALL, x.few(20, 19));
        due.same("few(20, 20)", 0, x.few(20, 20));
        due.same("few(20, 99)", 0, x.few(20, 99));
    }

    static void promise32_fewerThanKIsNotAsManyAsK(Due due) {
        HandRing x = new HandRing();
        x.terms(1, 5);
        due.same("few(1, 2)", ALL / 4, x.few(1, 2));
        due.same("few(2, 2)", 3 * ALL / 4, x.few(2, 2));
        due.same("few(3, 2)", ALL, x.few(3, 2));
    }

    static void promise32_asFarAsItIsWholeNothingIsCut(Due due) {
        due.same("few(1, 12)", 282429536481L, new HandRing().few(1, 12));
        due.same("few(13, 12)", ALL, new HandRing().few(13, 12));
    }

    static void promise32_eachPartIsCut(Due due) {
        HandRing x = new HandRing();
        due.same("few(1, 13)", 254186582832L, x.few(1, 13));
        due.same("few(2, 13)", 621344980257L, x.few(2, 13));
        // of 12 holds 0, 1, 2 slip in 1, 108, 5346 parts; of 13 in 0, in 10 and 0, in 534 and 97
        x.terms(1, 9);
        due.same("few(3, 12)", 5455, x.few(3, 12));
        due.same("few(3, 13)", 641, x.few(3, 13));
        due.same("few(3, 14)", 73, x.few(3, 14));
    }

    static void promise32_itIsNoRefusal(Due due) {
        HandRing x = new HandRing();
        x.undo();
        x.few(0, 0);
        due.same("status()", -3, x.status());
        due.same("count(6)", 0, x.count(6));
    }
}
