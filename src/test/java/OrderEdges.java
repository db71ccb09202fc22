/** Boundary cases of promises 11 and 13: orders, run wholly or not at all, and where they stopped. */
final class OrderEdges {
    private static final int NONE = HandRing.NONE;

    private OrderEdges() {
    }

    private static String times(int n, String text) {
        return text.repeat(n);
    }

    private static void fault(Due due, String text, int place) {
        HandRing x = Scene.crowd(8);
        int got = Due.orders(x, text);
        due.same("whether orders of '" + text + "' can't be read", place == NONE ? 0 : -6, got == -6 ? -6 : 0);
        due.same("fault of '" + text + "'", place, x.fault());
        due.same("tape behind '" + text + "'", 0, x.count(5));
    }

    static void promise11_anEmptyTape(Due due) {
        HandRing x = new HandRing();
        due.same("orders()", -6, x.orders());
        due.same("status()", -6, x.status());
        due.same("fault()", 0, x.fault());
    }

    static void promise11_blanksAloneHaveTheirFaultAtTheEnd(Due due) {
        fault(due, " ", 1);
        fault(due, "     ", 5);
        fault(due, times(400, " "), 400);
    }

    static void promise11_theTapeIsEmptyThen(Due due) {
        HandRing x = Scene.crowd(2);
        due.same("run", 1, Due.orders(x, "pass"));
        due.same("count(5)", 0, x.count(5));
        due.same("one can't be", -3, Due.orders(x, "take 0 with 0"));
        due.same("count(5)", 0, x.count(5));
        due.same("not read", -6, Due.orders(x, "pass 1"));
        due.same("count(5)", 0, x.count(5));
    }

    static void promise11_aTextThatCanNotBeIsNotRunAtAll(Due due) {
        HandRing x = Scene.crowd(2);
        String ahead = Scene.picture(x);
        due.same("the last token is wrong", -6, Due.orders(x, "pass;take 0 with 1;walk 0 to 1 1"));
        due.same("fault()", 31, x.fault());
        Due.orders(x, "pass if 1=2");
        due.same("all behind it", ahead, Scene.picture(x));
    }

    static void promise11_timesAreFrom1To20(Due due) {
        fault(due, "pass times 0", 11);
        fault(due, "pass times 1", NONE);
        fault(due, "pass times 20", NONE);
        fault(due, "pass times 21", 11);
        fault(due, "pass times 1000", 11);
        fault(due, "pass times 99999999999", 11);
        fault(due, "pass times 4294967297", 11);
    }

    static void promise11_timesAreANumber(Due due) {
        fault(due, "pass times", 10);
        fault(due, "pass times day", 11);
        fault(due, "pass times [1]", 11);
        fault(due, "pass times 1+1", 12);
        fault(due, "pass times -1", 11);
        fault(due, "pass times if 1=1", 11);
    }

    static void promise11_timesStandAheadOfIfAndOnce(Due due) {
        fault(due, "pass times 2 if 1=1", NONE);
        fault(due, "pass if 1=1 times 2", 12);
        fault(due, "pass times 2 times 2", 13);
    }

    static void promise11_withoutTimesItIsRunOnce(Due due) {
        HandRing x = new HandRing();
        due.same("pass", 1, Due.orders(x, "pass"));
        due.same("count(12)", 1, x.count(12));
        due.same("pass times 1", 1, Due.orders(x, "pass times 1"));
        due.same("pass times 20", 20, Due.orders(x, "pass times 20"));
        due.same("count(12)", 22, x.count(12));
    }

    static void promise11_theMostThatCanBeRun(Due due) {
        HandRing x = new HandRing();
        due.same("twelve clauses of twenty", 240, Due.orders(x, "pass times 20" + times(11, ";pass times 20")));
        due.same("count(12)", 240, x.count(12));
        due.same("count(4)", 16, x.count(4));
    }

    static void promise11_pIsFrom0To7(Due due) {
        fault(due, "pass if cell 0=0", NONE);
        fault(due, "pass if cell 7=0", NONE);
        fault(due, "pass if cell 8=0", 13);
        fault(due, "pass if hands 7=0", NONE);
        fault(due, "pass if hands 8=0", 14);
        fault(due, "pass if hands 4294967296=0", 14);
    }

    static void promise11_pIsANumber(Due due) {
        fault(due, "pass if cell=0", 12);
        fault(due, "pass if cell day=0", 13);
        fault(due, "pass if cell [1]=0", 13);
        fault(due, "pass if hands", 13);
    }

    static void promise11_pAndTimesAreNoParts(Due due) {
        fault(due, "pass times 20 if cell 1" + times(48, "+cell 1") + "=1", NONE);
        fault(due, "pass times 20 if cell 1" + times(49, "+cell 1") + "=1", 367);
        fault(due, times(3, "pass times 20;") + "pass if 1" + times(48, "+1") + "=1", NONE);
        fault(due, times(3, "pass times 20;") + "pass if 1" + times(48, "+1") + "=1+1", 150);
    }

    static void promise11_fiftyPartsAtMost(Due due) {
        fault(due, "take 1" + times(48, "+1") + " with 1", NONE);
        fault(due, "take 1" + times(48, "+1") + " with 1+1", 110);
        fault(due, "take 1" + times(49, "+1") + " with 1", 110);
    }

    static void promise11_twelveClausesAtMost(Due due) {
        fault(due, "pass" + times(11, ";pass"), NONE);
        fault(due, "pass" + times(12, ";pass"), 60);
        fault(due, "pass" + times(11, ";pass") + ";", 60);
    }

    static void promise11_eightBracketsWithinOneAnother(Due due) {
        fault(due, "walk " + times(8, "[") + "1" + times(8, "]") + " to 1", NONE);
        fault(due, "walk " + times(9, "[") + "1" + times(9, "]") + " to 1", 13);
    }

    static void promise11_eachOrderHasItsOwnWordBetween(Due due) {
        fault(due, "take 0 from 1", 7);
        fault(due, "take 0 to 1", 7);
        fault(due, "loose 0 with 1", 8);
        fault(due, "loose 0 to 1", 8);
        fault(due, "walk 0 with 1", 7);
        fault(due, "walk 0 from 1", 7);
        fault(due, "take 0 1", 7);
        fault(due, "take 0", 6);
        fault(due, "take with 1", 5);
        fault(due, "take 0 with", 11);
        fault(due, "pass with 1", 5);
        fault(due, "pass 1", 5);
    }

    static void promise11_wordsOfLawsAreNone(Due due) {
        fault(due, "take one with 1", 5);
        fault(due, "take other with 1", 5);
        fault(due, "take kind with 1", 5);
        fault(due, "take kin with 1", 5);
        fault(due, "take far with 1", 5);
        fault(due, "take reach with 1", 5);
        fault(due, "take mood with 1", 5);
        fault(due, "loses 1", 0);
        fault(due, "bars", 0);
    }

    static void promise11_noneIsRunIfItsTestIsNotSo(Due due) {
        HandRing x = new HandRing();
        due.same("not so", 0, Due.orders(x, "pass if 1=2"));
        due.same("status()", 0, x.status());
        due.same("count(12)", 0, x.count(12));
    }

    static void promise11_noneIsRunIfItsTestIsBroken(Due due) {
        HandRing x = new HandRing();
        due.same("broken", 0, Due.orders(x, "pass if 1/0=0"));
        due.same("broken, turned", 0, Due.orders(x, "pass if not 1/0=0"));
        due.same("broken beyond", 0, Due.orders(x, "pass if 1000*1000*1000+1>0"));
        due.same("status()", 0, x.status());
        due.same("count(12)", 0, x.count(12));
    }

    static void promise11_ifItIsNotRunItsSumsAreNotAsked(Due due) {
        HandRing x = Scene.crowd(2);
        due.same("a broken sum", 0, Due.orders(x, "take 1/0 with 1 if 1=2"));
        due.same("two who can't", 0, Due.orders(x, "take 0 with 0 if 1=2"));
        due.same("nobody", 0, Due.orders(x, "walk 9 to 9 if 1/0=1"));
        due.same("stopped()", NONE, x.stopped());
    }

    static void promise11_aBrokenSumEndsIt(Due due) {
        HandRing x = Scene.crowd(2);
        due.same("the first", -3, Due.orders(x, "take 0/0 with 1"));
        due.same("the second", -3, Due.orders(x, "take 0 with 1%0"));
        due.same("beyond", -3, Due.orders(x, "walk 0 to 1000*1000*1000*2/1000/1000/1000"));
        due.same("count(8)", 3, x.count(8));
        due.same("count(1)", 0, x.count(1));
    }

    static void promise11_oneThatIsRefusedEndsIt(Due due) {
        String[] texts = {"take 1 with 1", "take 0 with 3", "take 0-1 with 0", "take 0 with 1", "take 0 with 2",
            "loose 0 from 0", "loose 0 from 3", "loose 1 from 2", "walk 0 to 0", "walk 0 to 5", "walk 3 to 1",
            "walk 0 to 3", "walk 0 to 0-1", "take 1000*1000*1000 with 0"};
        for (String text : texts) {
            HandRing x = Scene.with(0, 1, 0, 1, 1, 0, 24, 1, 0);
            x.take(0, 1);
            String ahead = Scene.picture(x);
            due.same(text, -3, Due.orders(x, text));
            due.same("stopped() of " + text, 0, x.stopped());
            due.same("status() of " + text, -3, x.status());
            Due.orders(x, "pass if 1=2");
            due.same("all behind " + text, ahead, Scene.picture(x));
        }
    }

    static void promise11_theLastDayEndsIt(Due due) {
        HandRing x = new HandRing();
        x.terms(0, 998);
        due.same("pass;pass", -3, Due.orders(x, "pass;pass"));
        due.same("count(12)", 998, x.count(12));
        due.same("pass times 2", -3, Due.orders(x, "pass times 2"));
        due.same("pass times 2 if day<999", 1, Due.orders(x, "pass times 2 if day<999"));
        due.same("count(12)", 999, x.count(12));
        due.same("pass", -3, Due.orders(x, "pass"));
    }

    static void promise11_allIsAsItWasAheadOfIt(Due due) {
        HandRing x = Scene.under(Scene.with(0, 4, 0, 1, 4, 0, 2, 4, 0, 3, 4, 0), "tires 1;loses 2");
        x.take(0, 1);
        x.take(2, 3);
        x.seen(0, 1, 1);
        String ahead = Scene.picture(x);
        due.same("orders", -3, Due.orders(x, "loose 0 from 1;take 0 with 2;walk 1 to 1;pass times 3;loose 0 from 1"));
        due.same("stopped()", 4, x.stopped());
        Due.orders(x, "pass if 1=2");
        due.same("all behind it", ahead, Scene.picture(x));
    }

    static void promise11_allSixteenCanBeUndoneAsAheadOfIt(Due due) {
        HandRing x = Scene.crowd(2);
        x.take(0, 1);
        x.walk(0, 1);
        for (int day = 1; day <= 14; day++) {
            x.pass();
        }
        due.same("orders", -3, Due.orders(x, "pass times 20;pass times 20;loose 0 from 0"));
        due.same("count(4)", 16, x.count(4));
        for (int day = 13; day >= 0; day--) {
            due.same("undo()", 3, x.undo());
            due.same("count(12)", day, x.count(12));
        }
        due.same("undo()", 2, x.undo());
        due.same("undo()", 0, x.undo());
        due.same("undo()", -3, x.undo());
    }

    static void promise11_itIsOneRefusalOnly(Due due) {
        HandRing x = Scene.crowd(2);
        Due.orders(x, "pass;take 0 with 0");
        due.same("count(6)", 0, x.count(6));
        due.same("count(8)", 1, x.count(8));
        Due.orders(x, "walk 9 to 1");
        due.same("count(7)", 0, x.count(7));
        due.same("count(8)", 2, x.count(8));
        Due.orders(x, "walk 9 to");
        due.same("count(10)", 1, x.count(10));
    }

    static void promise11_testsAreAskedEachTime(Due due) {
        HandRing x = new HandRing();
        due.same("pass times 20 if day<3", 3, Due.orders(x, "pass times 20 if day<3"));
        due.same("every other time", 1, Due.orders(x, "pass times 20 if day%2=1"));
        due.same("count(12)", 4, x.count(12));
    }

    static void promise11_sumsAreAskedEachTime(Due due) {
        HandRing x = Scene.with(0, 0, 0);
        due.same("up and right by turns", 8, Due.orders(x, "walk 0 to 1+done%2 times 8"));
        due.same("of(0, 0)", 24, x.of(0, 0));
    }

    static void promise11_doneBeginsWith0InEachText(Due due) {
        HandRing x = new HandRing();
        due.same("twice", 2, Due.orders(x, "pass if done=0;pass if done=1;pass if done=1"));
        due.same("and again", 1, Due.orders(x, "pass if done=0"));
    }

    static void promise11_latestIsNoneAheadOfATake(Due due) {
        HandRing x = Scene.under(Scene.crowd(4), "loses 3+other");
        x.take(2, 3);
        due.same("though one was taken by take()", 1, Due.orders(x, "pass if latest=0-1"));
        due.same("what it told", 2, Due.orders(x, "take 0 with 1;pass if latest=4"));
        due.same("not of the text ahead", 1, Due.orders(x, "pass if latest=0-1"));
        due.same("behind another kind", 3, Due.orders(x, "take 0 with 2;loose 0 from 2;pass if latest=5"));
    }

    static void promise11_wordsOfNobodyAreMinusOne(Due due) {
        HandRing x = Scene.crowd(2);
        due.same("cell 2", 1, Due.orders(x, "pass if cell 2=0-1"));
        due.same("cell 7", 1, Due.orders(x, "pass if cell 7=0-1"));
        due.same("hands 2", 1, Due.orders(x, "pass if hands 2=0-1"));
        due.same("cell 1", 1, Due.orders(x, "pass if cell 1=0"));
        due.same("hands 1", 1, Due.orders(x, "pass if hands 1=0"));
    }

    static void promise11_withoutHoldsNothingIsLost(Due due) {
        HandRing x = Scene.under(Scene.crowd(3), "loses 9");
        due.same("none", 1, Due.orders(x, "pass if holds=0 and lost=0"));
        due.same("three", 4, Due.orders(x,
            "take 0 with 1;take 1 with 2;take 0 with 2;pass if holds=3 and lost=27 and hands 0=2"));
    }

    static void promise11_itLeavesWhatCanBeUndone(Due due) {
        HandRing x = Scene.ringOf(3);
        due.same("one more", 1, Due.orders(x, "pass"));
        due.same("count(4)", 4, x.count(4));
        due.same("none", 0, Due.orders(x, "pass if 1=2"));
        due.same("count(4)", 4, x.count(4));
        Due.orders(x, "pas");
        due.same("count(4)", 4, x.count(4));
    }

    static void promise13_noneAheadOfAnyOrders(Due due) {
        due.same("stopped()", NONE, new HandRing().stopped());
    }

    static void promise13_theFirstClauseIs0(Due due) {
        HandRing x = Scene.crowd(2);
        Due.orders(x, "take 0 with 0;pass");
        due.same("stopped()", 0, x.stopped());
    }

    static void promise13_theTwelfthClauseIs11(Due due) {
        HandRing x = Scene.crowd(2);
        Due.orders(x, times(11, "pass;") + "take 0 with 0");
        due.same("stopped()", 11, x.stopped());
    }

    static void promise13_theClauseIsToldNotTheTime(Due due) {
        HandRing x = Scene.with(0, 0, 0);
        due.same("the fifth time", -3, Due.orders(x, "pass times 7;walk 0 to 1 times 5"));
        due.same("stopped()", 1, x.stopped());
    }

    static void promise13_clausesThatAreNotRunCount(Due due) {
        HandRing x = Scene.crowd(2);
        Due.orders(x, "pass if 1=2;pass if 1/0=0;take 1 with 1");
        due.same("stopped()", 2, x.stopped());
    }

    static void promise13_noneBehindOrdersThatWereRun(Due due) {
        HandRing x = Scene.crowd(2);
        Due.orders(x, "pass;take 0 with 0");
        due.same("stopped()", 1, x.stopped());
        Due.orders(x, "pass");
        due.same("stopped()", NONE, x.stopped());
    }

    static void promise13_noneBehindATextThatCanNotBe(Due due) {
        HandRing x = Scene.crowd(2);
        Due.orders(x, "pass;take 0 with 0");
        Due.orders(x, "pass;take 0 with");
        due.same("stopped()", NONE, x.stopped());
        Due.orders(x, "pass;take 0 with 0");
        x.orders();
        due.same("stopped() behind an empty tape", NONE, x.stopped());
    }

    static void promise13_otherCallsLeaveIt(Due due) {
        HandRing x = Scene.crowd(2);
        Due.orders(x, "pass;take 0 with 0");
        Due.law(x, "bars");
        Due.law(x, "bar");
        x.take(0, 1);
        x.take(0, 1);
        x.undo();
        due.same("stopped()", 1, x.stopped());
    }

    static void promise13_imagesDoNotKeepIt(Due due) {
        HandRing x = Scene.crowd(2);
        x.image(1);
        Due.orders(x, "pass;take 0 with 0");
        x.back(1);
        due.same("stopped()", 1, x.stopped());
    }
}
