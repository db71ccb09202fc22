/** Boundary cases of promises 1 to 5: a new object, people, what is asked of them, terms. */
final class PeopleEdges {
    private static final int NONE = HandRing.NONE;
    private static final int LOW = Integer.MIN_VALUE;
    private static final int HIGH = Integer.MAX_VALUE;

    private PeopleEdges() {
    }

    static void promise1_nobodyIsThere(Due due) {
        HandRing x = new HandRing();
        due.same("count(0)", 0, x.count(0));
        due.same("of(0, 0)", NONE, x.of(0, 0));
        due.same("asks(0, 1, 0)", NONE, x.asks(0, 1, 0));
        due.same("stays()", 0, x.stays());
    }

    static void promise1_thereAreNoHoldsAtFirst(Due due) {
        HandRing x = Scene.crowd(3);
        due.same("count(1)", 0, x.count(1));
        due.same("of(0, 3)", 0, x.of(0, 3));
        due.same("lights(1)", 0, x.lights(1));
    }

    static void promise1_theDayIs0AtFirst(Due due) {
        due.same("count(12)", 0, new HandRing().count(12));
        due.same("terms(0, 3)", 0, new HandRing().terms(0, 3));
    }

    static void promise1_oneOfTenSlipsAtFirst(Due due) {
        due.same("count(13)", 1, new HandRing().count(13));
        due.same("terms(1, 3)", 1, new HandRing().terms(1, 3));
        due.same("few(1, 1)", 900000000000L, new HandRing().few(1, 1));
    }

    static void promise1_theMoodIs0AtFirst(Due due) {
        due.same("count(14)", 0, new HandRing().count(14));
        due.same("terms(2, 3)", 0, new HandRing().terms(2, 3));
    }

    static void promise1_theLightIs50AtFirst(Due due) {
        due.same("count(15)", 50, new HandRing().count(15));
        due.same("terms(3, 3)", 50, new HandRing().terms(3, 3));
    }

    static void promise1_thereIsNoLawAndNoneIsInForce(Due due) {
        HandRing x = new HandRing();
        due.same("count(3)", 0, x.count(3));
        due.same("count(11)", NONE, x.count(11));
        due.same("force(NONE)", NONE, x.force(NONE));
    }

    static void promise1_nothingWasSeen(Due due) {
        due.same("count(2)", 0, new HandRing().count(2));
    }

    static void promise1_theTapeIsEmpty(Due due) {
        HandRing x = new HandRing();
        due.same("count(5)", 0, x.count(5));
        due.same("end(1)", NONE, x.end(1));
    }

    static void promise1_nothingCanBeUndone(Due due) {
        due.same("count(4)", 0, new HandRing().count(4));
        due.same("undo()", -3, new HandRing().undo());
    }

    static void promise1_noImageIsKept(Due due) {
        due.same("back(0)", -2, new HandRing().back(0));
        due.same("back(1)", -2, new HandRing().back(1));
    }

    static void promise1_nothingWasRefused(Due due) {
        HandRing x = new HandRing();
        for (int what = 6; what <= 10; what++) {
            due.same("count(" + what + ")", 0, x.count(what));
        }
        due.same("status()", 0, x.status());
    }

    static void promise1_twoObjectsShareNothing(Due due) {
        HandRing x = new HandRing();
        HandRing y = new HandRing();
        String empty = Scene.picture(y);
        x.person(3, 2, 1);
        x.person(3, 2, 1);
        x.take(0, 1);
        x.seen(0, 1, 1);
        x.terms(3, 7);
        Scene.under(x, "loses 5");
        x.image(0);
        x.days(1, 2);
        x.person(99, 0, 0);
        x.feed(0, 0, 0, 0, 0);
        due.same("the other one", empty, Scene.picture(y));
        due.same("the other one's status()", 0, y.status());
        due.same("the other one's count(6)", 0, y.count(6));
        due.same("the other one's back(0)", -2, y.back(0));
    }

    static void promise1_the512thCallIsAnswered(Due due) {
        HandRing x = new HandRing();
        for (int call = 1; call <= 510; call += 2) {
            x.pass();
            x.undo();
        }
        due.same("call 511, pass()", 1, x.pass());
        due.same("call 512, undo()", 3, x.undo());
    }

    static void promise2_theCellIsFrom0To24(Due due) {
        HandRing x = new HandRing();
        due.same("person(-1, 0, 0)", -1, x.person(-1, 0, 0));
        due.same("person(25, 0, 0)", -1, x.person(25, 0, 0));
        due.same("person(0, 0, 0)", 0, x.person(0, 0, 0));
        due.same("person(24, 0, 0)", 1, x.person(24, 0, 0));
        due.same("of(1, 0)", 24, x.of(1, 0));
    }

    static void promise2_theReachIsFrom0To4(Due due) {
        HandRing x = new HandRing();
        due.same("person(0, -1, 0)", -1, x.person(0, -1, 0));
        due.same("person(0, 5, 0)", -1, x.person(0, 5, 0));
        due.same("person(0, 0, 0)", 0, x.person(0, 0, 0));
        due.same("person(0, 4, 0)", 1, x.person(0, 4, 0));
        due.same("of(1, 1)", 4, x.of(1, 1));
    }

    static void promise2_theKindIsFrom0To3(Due due) {
        HandRing x = new HandRing();
        due.same("person(0, 0, -1)", -1, x.person(0, 0, -1));
        due.same("person(0, 0, 4)", -1, x.person(0, 0, 4));
        due.same("person(0, 0, 0)", 0, x.person(0, 0, 0));
        due.same("person(0, 0, 3)", 1, x.person(0, 0, 3));
        due.same("of(1, 2)", 3, x.of(1, 2));
    }

    static void promise2_numbersFarOutsideCanNotBe(Due due) {
        for (int number : new int[] {LOW, HIGH, 256, -256}) {
            due.same("cell " + number, -1, new HandRing().person(number, 0, 0));
            due.same("reach " + number, -1, new HandRing().person(0, number, 0));
            due.same("kind " + number, -1, new HandRing().person(0, 0, number));
        }
    }

    static void promise2_forANinthThereIsNoRoom(Due due) {
        HandRing x = new HandRing();
        for (int i = 0; i < 8; i++) {
            due.same("person " + i, i, x.person(i, 1, 1));
        }
        due.same("a ninth", -5, x.person(8, 1, 1));
        due.same("status()", -5, x.status());
        due.same("count(0)", 8, x.count(0));
        due.same("of(8, 0)", NONE, x.of(8, 0));
    }

    static void promise2_aNumberThatCanNotBeIsToldAheadOfNoRoom(Due due) {
        HandRing x = Scene.crowd(8);
        due.same("person(25, 0, 0)", -1, x.person(25, 0, 0));
        due.same("person(0, 5, 0)", -1, x.person(0, 5, 0));
        due.same("person(0, 0, 4)", -1, x.person(0, 0, 4));
        due.same("count(9)", 0, x.count(9));
    }

    static void promise2_oneWhoIsRefusedTakesNoNumber(Due due) {
        HandRing x = new HandRing();
        due.same("person(0, 0, 0)", 0, x.person(0, 0, 0));
        due.same("person(0, 0, 9)", -1, x.person(0, 0, 9));
        due.same("person(1, 0, 0)", 1, x.person(1, 0, 0));
        due.same("of(1, 0)", 1, x.of(1, 0));
    }

    static void promise2_refusedItChangesNothing(Due due) {
        HandRing x = Scene.ringOf(8);
        String ahead = Scene.picture(x);
        x.person(0, 0, 0);
        x.person(25, 0, 0);
        due.same("all behind it", ahead, Scene.picture(x));
    }

    static void promise2_twoMayBeInTheSameCell(Due due) {
        HandRing x = Scene.with(12, 0, 0);
        due.same("person(12, 0, 0)", 1, x.person(12, 0, 0));
        due.same("asks(0, 1, 0)", 0, x.asks(0, 1, 0));
    }

    static void promise3_nobodyOfThatNumber(Due due) {
        HandRing x = Scene.crowd(2);
        for (int person : new int[] {-1, 2, 8, LOW, HIGH}) {
            for (int what = 0; what <= 5; what++) {
                due.same("of(" + person + ", " + what + ")", NONE, x.of(person, what));
            }
        }
    }

    static void promise3_nobodyBeyondEight(Due due) {
        due.same("of(8, 0)", NONE, Scene.crowd(8).of(8, 0));
        due.same("of(7, 0)", 0, Scene.crowd(8).of(7, 0));
    }

    static void promise3_whatIsFrom0To5(Due due) {
        HandRing x = Scene.crowd(1);
        for (int what : new int[] {-1, 6, LOW, HIGH}) {
            due.same("of(0, " + what + ")", NONE, x.of(0, what));
        }
        due.same("of(0, 5)", 0, x.of(0, 5));
    }

    static void promise3_itIsNoRefusal(Due due) {
        HandRing x = new HandRing();
        x.undo();
        x.of(0, 0);
        x.of(0, 9);
        due.same("count(6)", 0, x.count(6));
        due.same("count(7)", 0, x.count(7));
        due.same("status()", -3, x.status());
    }

    static void promise3_oneAloneHoldsAndCanHoldNobody(Due due) {
        HandRing x = Scene.crowd(1);
        due.same("of(0, 3)", 0, x.of(0, 3));
        due.same("of(0, 4)", 0, x.of(0, 4));
    }

    static void promise3_asFarAsBothReachTogetherTheyCan(Due due) {
        due.same("far 3, reach 1 and 2", 2, Scene.with(0, 1, 0, 3, 2, 0).of(0, 4));
        due.same("far 8, reach 4 and 4", 2, Scene.with(0, 4, 0, 24, 4, 0).of(0, 4));
        due.same("far 0, reach 0 and 0", 1, Scene.with(7, 0, 0, 7, 0, 0).of(1, 4));
    }

    static void promise3_oneFartherThanBothReachTheyCanNot(Due due) {
        due.same("far 3, reach 1 and 1", 0, Scene.with(0, 1, 0, 3, 1, 0).of(0, 4));
        due.same("far 8, reach 4 and 3", 0, Scene.with(0, 4, 0, 24, 3, 0).of(0, 4));
        due.same("far 1, reach 0 and 0", 0, Scene.with(7, 0, 0, 8, 0, 0).of(1, 4));
    }

    static void promise3_whoIsBarredIsNotAmongThoseWhoCan(Due due) {
        due.same("of(0, 4)", 4, Scene.under(Scene.crowd(3), "bars if one=0 and other=1").of(0, 4));
        due.same("of(1, 4)", 4, Scene.under(Scene.crowd(3), "bars if one=0 and other=1").of(1, 4));
        due.same("of(2, 4)", 3, Scene.under(Scene.crowd(3), "bars if one=0 and other=1").of(2, 4));
    }

    static void promise3_theyCanThoughTheirHandsAreFull(Due due) {
        HandRing x = Scene.crowd(4);
        x.take(0, 1);
        x.take(0, 2);
        due.same("of(0, 3)", 6, x.of(0, 3));
        due.same("of(0, 4)", 14, x.of(0, 4));
    }

    static void promise3_withoutALawOneTiresBy0(Due due) {
        due.same("of(0, 5)", 0, Scene.crowd(1).of(0, 5));
    }

    static void promise3_withoutATiresThatHoldsOneTiresBy0(Due due) {
        due.same("no such clause", 0, Scene.under(Scene.crowd(1), "loses 3;bars").of(0, 5));
        due.same("one that does not hold", 0, Scene.under(Scene.crowd(1), "tires 3 if 1=2").of(0, 5));
        due.same("one that is broken", 0, Scene.under(Scene.crowd(1), "tires 3/0").of(0, 5));
    }

    static void promise3_oneTiresBy4AtMost(Due due) {
        due.same("tires 4", 4, Scene.under(Scene.crowd(1), "tires 4").of(0, 5));
        due.same("tires 5", 4, Scene.under(Scene.crowd(1), "tires 5").of(0, 5));
        due.same("tires 1000*1000*1000", 4, Scene.under(Scene.crowd(1), "tires 1000*1000*1000").of(0, 5));
    }

    static void promise3_oneTiresBy0AtLeast(Due due) {
        due.same("tires 0-1", 0, Scene.under(Scene.crowd(1), "tires 0-1").of(0, 5));
        due.same("the least", 0, Scene.under(Scene.crowd(1), "tires 0-1000*1000*1000").of(0, 5));
    }

    static void promise3_oneTiresByMoreThanItsReach(Due due) {
        due.same("of(0, 5)", 4, Scene.under(Scene.with(0, 1, 0), "tires 4").of(0, 5));
    }

    static void promise4_oneAloneIsNone(Due due) {
        HandRing x = Scene.crowd(2);
        for (int what = 0; what <= 2; what++) {
            due.same("asks(1, 1, " + what + ")", NONE, x.asks(1, 1, what));
        }
    }

    static void promise4_nobodyOfThatNumber(Due due) {
        HandRing x = Scene.crowd(2);
        for (int person : new int[] {-1, 2, 8, LOW, HIGH}) {
            due.same("asks(0, " + person + ", 0)", NONE, x.asks(0, person, 0));
            due.same("asks(" + person + ", 0, 1)", NONE, x.asks(person, 0, 1));
            due.same("asks(" + person + ", " + person + ", 2)", NONE, x.asks(person, person, 2));
        }
    }

    static void promise4_whatIsFrom0To2(Due due) {
        HandRing x = Scene.crowd(2);
        for (int what : new int[] {-1, 3, LOW, HIGH}) {
            due.same("asks(0, 1, " + what + ")", NONE, x.asks(0, 1, what));
        }
        due.same("asks(0, 1, 2)", 0, x.asks(0, 1, 2));
    }

    static void promise4_itIsNoRefusal(Due due) {
        HandRing x = new HandRing();
        x.asks(0, 0, 0);
        x.asks(0, 1, 0);
        due.same("count(6)", 0, x.count(6));
        due.same("count(7)", 0, x.count(7));
        due.same("status()", 0, x.status());
    }

    static void promise4_inOneCellTheyAre0FarAndInCornersEight(Due due) {
        due.same("one cell", 0, Scene.with(9, 0, 0, 9, 0, 0).asks(0, 1, 0));
        due.same("0 and 24", 8, Scene.with(0, 0, 0, 24, 0, 0).asks(0, 1, 0));
        due.same("4 and 20", 8, Scene.with(4, 0, 0, 20, 0, 0).asks(1, 0, 0));
    }

    static void promise4_aRowsEndIsNotNextToTheNextRow(Due due) {
        due.same("4 and 5", 5, Scene.with(4, 0, 0, 5, 0, 0).asks(0, 1, 0));
        due.same("0 and 4", 4, Scene.with(0, 0, 0, 4, 0, 0).asks(0, 1, 0));
        due.same("0 and 20", 4, Scene.with(0, 0, 0, 20, 0, 0).asks(0, 1, 0));
        due.same("4 and 9", 1, Scene.with(4, 0, 0, 9, 0, 0).asks(0, 1, 0));
    }

    static void promise4_withoutALosesIsLostHowFarTheyAre(Due due) {
        due.same("no law", 8, Scene.with(0, 0, 0, 24, 0, 0).asks(0, 1, 1));
        due.same("no such clause", 8, Scene.under(Scene.with(0, 0, 0, 24, 0, 0), "bars").asks(0, 1, 1));
        due.same("one that does not hold", 8,
            Scene.under(Scene.with(0, 0, 0, 24, 0, 0), "loses 1 if far<8").asks(0, 1, 1));
        due.same("one that is broken", 8, Scene.under(Scene.with(0, 0, 0, 24, 0, 0), "loses far%0").asks(0, 1, 1));
    }

    static void promise4_lostIs9AtMost(Due due) {
        due.same("loses 9", 9, Scene.under(Scene.crowd(2), "loses 9").asks(0, 1, 1));
        due.same("loses 10", 9, Scene.under(Scene.crowd(2), "loses 10").asks(0, 1, 1));
        due.same("the most", 9, Scene.under(Scene.crowd(2), "loses 1000*1000*1000").asks(0, 1, 1));
    }

    static void promise4_lostIs0AtLeast(Due due) {
        due.same("loses 0", 0, Scene.under(Scene.with(0, 1, 0, 1, 1, 0), "loses 0").asks(0, 1, 1));
        due.same("loses 0-1", 0, Scene.under(Scene.with(0, 1, 0, 1, 1, 0), "loses 0-1").asks(0, 1, 1));
        due.same("the least", 0, Scene.under(Scene.with(0, 1, 0, 1, 1, 0), "loses 0-1000*1000*1000").asks(0, 1, 1));
    }

    static void promise4_itIsToldOfTwoWhoCanNotHoldHands(Due due) {
        HandRing x = Scene.under(Scene.with(0, 0, 0, 24, 0, 0), "loses 3;bars");
        due.same("asks(0, 1, 1)", 3, x.asks(0, 1, 1));
        due.same("asks(0, 1, 2)", 1, x.asks(0, 1, 2));
    }

    static void promise4_tooFarIsNotBarred(Due due) {
        due.same("asks(0, 1, 2)", 0, Scene.with(0, 0, 0, 24, 0, 0).asks(0, 1, 2));
    }

    static void promise5_theDayIsFrom0To999(Due due) {
        bounds(due, 0, 999);
    }

    static void promise5_slipsAreFrom0To10(Due due) {
        bounds(due, 1, 10);
    }

    static void promise5_theMoodIsFrom0To9(Due due) {
        bounds(due, 2, 9);
    }

    static void promise5_theLightIsFrom0To99(Due due) {
        bounds(due, 3, 99);
    }

    private static void bounds(Due due, int term, int most) {
        HandRing x = new HandRing();
        int first = x.count(12 + term);
        for (int value : new int[] {-1, most + 1, LOW, HIGH}) {
            due.same("terms(" + term + ", " + value + ")", -1, x.terms(term, value));
            due.same("it stays", first, x.count(12 + term));
        }
        due.same("terms(" + term + ", " + most + ")", first, x.terms(term, most));
        due.same("terms(" + term + ", 0)", most, x.terms(term, 0));
        due.same("terms(" + term + ", 0) again", 0, x.terms(term, 0));
        due.same("status()", 0, x.status());
    }

    static void promise5_thereAreFourTerms(Due due) {
        HandRing x = new HandRing();
        String ahead = Scene.picture(x);
        for (int what : new int[] {-1, 4, LOW, HIGH}) {
            due.same("terms(" + what + ", 0)", -1, x.terms(what, 0));
        }
        due.same("count(6)", 4, x.count(6));
        due.same("all behind it", ahead, Scene.picture(x));
    }

    static void promise5_refusedItTakesNothingFromWhatCanBeUndone(Due due) {
        HandRing x = Scene.ringOf(3);
        x.terms(0, 1000);
        x.terms(4, 0);
        due.same("count(4)", 3, x.count(4));
    }

    static void promise5_notRefusedNothingAheadOfItCanBeUndone(Due due) {
        HandRing x = Scene.ringOf(3);
        due.same("the same value", 0, x.terms(2, 0));
        due.same("count(4)", 0, x.count(4));
        due.same("undo()", -3, x.undo());
    }

    static void promise5_holdsStayTillSomebodyWalksOrADayPasses(Due due) {
        HandRing x = Scene.under(Scene.ringOf(3), "bars if mood=9");
        x.terms(2, 9);
        due.same("of(0, 4)", 0, x.of(0, 4));
        due.same("count(1)", 3, x.count(1));
        due.same("walk(0, 1)", 3, x.walk(0, 1));
        due.same("count(1)", 0, x.count(1));
    }
}
