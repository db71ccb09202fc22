/** Boundary cases of promises 14 to 20: the law in force, hands, steps, days, what is undone, light. */
final class HandEdges {
    private static final int NONE = HandRing.NONE;
    private static final int LOW = Integer.MIN_VALUE;
    private static final int HIGH = Integer.MAX_VALUE;

    private HandEdges() {
    }

    static void promise14_withoutLawsThereIsNone(Due due) {
        HandRing x = new HandRing();
        due.same("force(0)", -2, x.force(0));
        due.same("status()", -2, x.status());
        due.same("count(7)", 1, x.count(7));
        due.same("count(11)", NONE, x.count(11));
    }

    static void promise14_oneBeyondTheLast(Due due) {
        HandRing x = new HandRing();
        Due.law(x, "bars");
        Due.law(x, "bars");
        due.same("force(1)", NONE, x.force(1));
        for (int law : new int[] {2, 6, -2, LOW, HIGH}) {
            due.same("force(" + law + ")", -2, x.force(law));
            due.same("count(11)", 1, x.count(11));
        }
    }

    static void promise14_theSixth(Due due) {
        HandRing x = new HandRing();
        for (int i = 0; i < 6; i++) {
            Due.law(x, "bars");
        }
        due.same("force(5)", NONE, x.force(5));
        due.same("force(6)", -2, x.force(6));
        due.same("force(0)", 5, x.force(0));
    }

    static void promise14_noneIsNoRefusal(Due due) {
        HandRing x = new HandRing();
        x.undo();
        due.same("force(NONE) while none is", NONE, x.force(NONE));
        due.same("status()", 0, x.status());
        due.same("count(6)", 0, x.count(6));
        Scene.under(x, "bars");
        due.same("force(NONE)", 0, x.force(NONE));
        due.same("count(11)", NONE, x.count(11));
    }

    static void promise14_theSameAgain(Due due) {
        HandRing x = Scene.under(new HandRing(), "bars");
        due.same("force(0)", 0, x.force(0));
        due.same("status()", 0, x.status());
    }

    static void promise14_holdsStayThoughItBarsThem(Due due) {
        HandRing x = Scene.under(Scene.ringOf(3), "bars");
        due.same("count(1)", 3, x.count(1));
        due.same("count(4)", 3, x.count(4));
        due.same("pass()", 1, x.pass());
        due.same("count(1)", 0, x.count(1));
    }

    static void promise15_itself(Due due) {
        HandRing x = Scene.crowd(2);
        due.same("take(1, 1)", -1, x.take(1, 1));
        due.same("take(2, 2), nobody", -1, x.take(2, 2));
        due.same("take(-1, -1), nobody", -1, x.take(-1, -1));
        due.same("count(6)", 3, x.count(6));
    }

    static void promise15_nobodyOfThatNumber(Due due) {
        HandRing x = Scene.crowd(2);
        for (int person : new int[] {-1, 2, 8, LOW, HIGH}) {
            due.same("take(0, " + person + ")", -2, x.take(0, person));
            due.same("take(" + person + ", 0)", -2, x.take(person, 0));
        }
        due.same("nobody and nobody", -2, x.take(8, 9));
    }

    static void promise15_nobodyIsToldAheadOfWhatCanNotBe(Due due) {
        HandRing x = Scene.under(Scene.ringOf(3), "bars");
        due.same("take(0, 3)", -2, x.take(0, 3));
        due.same("take(3, 0)", -2, x.take(3, 0));
    }

    static void promise15_whoHoldHandsAlready(Due due) {
        HandRing x = Scene.crowd(2);
        due.same("take(0, 1)", 0, x.take(0, 1));
        due.same("take(0, 1) again", -3, x.take(0, 1));
        due.same("take(1, 0)", -3, x.take(1, 0));
        due.same("count(1)", 1, x.count(1));
    }

    static void promise15_aThirdHold(Due due) {
        HandRing x = Scene.crowd(4);
        due.same("take(0, 1)", 0, x.take(0, 1));
        due.same("take(0, 2)", 0, x.take(0, 2));
        due.same("take(0, 3)", -3, x.take(0, 3));
        due.same("take(3, 0)", -3, x.take(3, 0));
        due.same("of(0, 3)", 6, x.of(0, 3));
        due.same("of(3, 3)", 0, x.of(3, 3));
    }

    static void promise15_asFarAsBothReach(Due due) {
        HandRing x = Scene.with(0, 1, 0, 3, 2, 0, 8, 1, 0);
        due.same("far 3, reach 3", 3, x.take(0, 1));
        due.same("far 4, reach 2", -3, x.take(0, 2));
        due.same("far 8, reach 8", 8, Scene.with(0, 4, 0, 24, 4, 0).take(1, 0));
        due.same("far 8, reach 7", -3, Scene.with(0, 4, 0, 24, 3, 0).take(1, 0));
        due.same("far 0, reach 0", 0, Scene.with(3, 0, 0, 3, 0, 0).take(0, 1));
    }

    static void promise15_whoAreBarred(Due due) {
        HandRing x = Scene.under(Scene.crowd(3), "bars if one=0 and other=1");
        due.same("take(0, 1)", -3, x.take(0, 1));
        due.same("take(1, 0)", -3, x.take(1, 0));
        due.same("take(1, 2)", 0, x.take(1, 2));
    }

    static void promise15_whatIsLostThereIsFrom0To9(Due due) {
        due.same("loses 10", 9, Scene.under(Scene.crowd(2), "loses 10").take(0, 1));
        due.same("loses 0-10", 0, Scene.under(Scene.crowd(2), "loses 0-10").take(0, 1));
    }

    static void promise15_refusedItChangesNothing(Due due) {
        HandRing x = Scene.ringOf(3);
        String ahead = Scene.picture(x);
        x.take(0, 0);
        x.take(0, 3);
        x.take(0, 1);
        due.same("all behind it", ahead, Scene.picture(x));
        due.same("undo()", 0, x.undo());
    }

    static void promise16_itself(Due due) {
        HandRing x = Scene.crowd(2);
        due.same("loose(1, 1)", -1, x.loose(1, 1));
        due.same("loose(2, 2), nobody", -1, x.loose(2, 2));
        due.same("loose(-1, -1), nobody", -1, x.loose(-1, -1));
    }

    static void promise16_nobodyOfThatNumber(Due due) {
        HandRing x = Scene.crowd(2);
        for (int person : new int[] {-1, 2, 8, 32, LOW, HIGH}) {
            due.same("loose(0, " + person + ")", -2, x.loose(0, person));
            due.same("loose(" + person + ", 0)", -2, x.loose(person, 0));
        }
    }

    static void promise16_whoDoNotHoldHands(Due due) {
        HandRing x = Scene.crowd(3);
        x.take(0, 1);
        x.take(1, 2);
        due.same("loose(0, 2)", -3, x.loose(0, 2));
        due.same("count(1)", 2, x.count(1));
        due.same("count(4)", 2, x.count(4));
    }

    static void promise16_asSoonAsTheyHoldHandsNoMore(Due due) {
        HandRing x = Scene.crowd(2);
        x.take(0, 1);
        due.same("loose(1, 0)", 0, x.loose(1, 0));
        due.same("loose(1, 0) again", -3, x.loose(1, 0));
        due.same("of(0, 3)", 0, x.of(0, 3));
        due.same("of(1, 3)", 0, x.of(1, 3));
    }

    static void promise16_thoughTheyCouldNotTakeThemAgain(Due due) {
        HandRing x = Scene.under(Scene.ringOf(3), "bars");
        due.same("loose(0, 1)", 2, x.loose(0, 1));
        due.same("take(0, 1)", -3, x.take(0, 1));
        due.same("others hold hands still", 2, x.count(1));
    }

    static void promise16_aHandIsFreeThen(Due due) {
        HandRing x = Scene.crowd(4);
        x.take(0, 1);
        x.take(0, 2);
        due.same("loose(0, 1)", 1, x.loose(0, 1));
        due.same("take(0, 3)", 0, x.take(0, 3));
    }

    static void promise17_waysAreFrom1To4(Due due) {
        HandRing x = Scene.with(12, 0, 0);
        for (int way : new int[] {0, 5, -1, LOW, HIGH}) {
            due.same("walk(0, " + way + ")", -1, x.walk(0, way));
            due.same("of(0, 0)", 12, x.of(0, 0));
        }
        due.same("walk(0, 1)", 0, x.walk(0, 1));
        due.same("walk(0, 4)", 0, x.walk(0, 4));
        due.same("of(0, 0)", 16, x.of(0, 0));
    }

    static void promise17_theWayIsToldAheadOfNobody(Due due) {
        HandRing x = Scene.crowd(1);
        due.same("walk(1, 0)", -1, x.walk(1, 0));
        due.same("walk(-1, 5)", -1, x.walk(-1, 5));
    }

    static void promise17_nobodyOfThatNumber(Due due) {
        HandRing x = Scene.crowd(1);
        for (int person : new int[] {-1, 1, 8, LOW, HIGH}) {
            due.same("walk(" + person + ", 1)", -2, x.walk(person, 1));
        }
    }

    static void promise17_withinTheEdge(Due due) {
        int[] across = {0, 0, 1, 0, -1};
        int[] along = {0, 1, 0, -1, 0};
        for (int cell = 0; cell < 25; cell++) {
            for (int way = 1; way <= 4; way++) {
                HandRing x = Scene.with(cell, 0, 0);
                int column = cell % 5 + across[way];
                int row = cell / 5 + along[way];
                boolean within = column >= 0 && column < 5 && row >= 0 && row < 5;
                due.same("from " + cell + " the way " + way, within ? 0 : -3, x.walk(0, way));
                due.same("from " + cell + " it is", within ? row * 5 + column : cell, x.of(0, 0));
                due.same("can be undone", within ? 1 : 0, x.count(4));
            }
        }
    }

    static void promise17_aHoldAsFarAsBothReachStays(Due due) {
        HandRing x = Scene.with(0, 1, 0, 0, 1, 0);
        x.take(0, 1);
        due.same("far 1", 0, x.walk(1, 2));
        due.same("far 2", 0, x.walk(1, 2));
        due.same("count(1)", 1, x.count(1));
        due.same("far 3", 1, x.walk(1, 2));
        due.same("count(1)", 0, x.count(1));
        due.same("back again there is no hold", 0, x.walk(1, 4));
        due.same("count(1)", 0, x.count(1));
    }

    static void promise17_twoHoldsAtOnce(Due due) {
        HandRing x = Scene.with(0, 0, 0, 0, 0, 0, 0, 0, 0);
        x.take(0, 1);
        x.take(0, 2);
        x.take(1, 2);
        due.same("walk(0, 1)", 2, x.walk(0, 1));
        due.same("of(1, 3)", 4, x.of(1, 3));
        due.same("of(0, 3)", 0, x.of(0, 3));
    }

    static void promise17_holdsOfOthersWhoCanNoMore(Due due) {
        HandRing x = Scene.under(Scene.ringOf(4), "bars if one=2");
        due.same("walk(0, 1)", 1, x.walk(0, 1));
        due.same("of(3, 3)", 1, x.of(3, 3));
    }

    static void promise17_refusedItLeavesHoldsOfThoseWhoCanNoMore(Due due) {
        HandRing x = Scene.under(Scene.ringOf(3), "bars");
        due.same("the edge", -3, x.walk(0, 3));
        due.same("no way", -1, x.walk(0, 0));
        due.same("nobody", -2, x.walk(3, 1));
        due.same("count(1)", 3, x.count(1));
        due.same("count(4)", 3, x.count(4));
    }

    static void promise18_theLastDayIs999(Due due) {
        HandRing x = new HandRing();
        x.terms(0, 998);
        due.same("pass()", 999, x.pass());
        due.same("pass() again", -3, x.pass());
        due.same("count(12)", 999, x.count(12));
        due.same("count(4)", 1, x.count(4));
    }

    static void promise18_refusedItTiresNobodyAndLeavesHolds(Due due) {
        HandRing x = Scene.under(Scene.ringOf(3), "tires 1;bars");
        x.terms(0, 999);
        String ahead = Scene.picture(x);
        due.same("pass()", -3, x.pass());
        due.same("all behind it", ahead, Scene.picture(x));
        due.same("of(0, 1)", 4, x.of(0, 1));
    }

    static void promise18_aDayWithoutPeople(Due due) {
        HandRing x = new HandRing();
        due.same("pass()", 1, x.pass());
        due.same("undo()", 3, x.undo());
    }

    static void promise18_reachIs0AtLeast(Due due) {
        HandRing x = Scene.under(Scene.with(0, 1, 0, 0, 4, 0, 0, 0, 0), "tires 3");
        x.pass();
        due.same("of(0, 1)", 0, x.of(0, 1));
        due.same("of(1, 1)", 1, x.of(1, 1));
        due.same("of(2, 1)", 0, x.of(2, 1));
        x.pass();
        due.same("of(1, 1)", 0, x.of(1, 1));
    }

    static void promise18_oneTiresBy0To4(Due due) {
        HandRing x = Scene.under(Scene.with(0, 4, 0, 0, 4, 1), "tires 9;tires 0-9 if kind=1");
        x.pass();
        due.same("by 9", 0, x.of(0, 1));
        due.same("by 0-9", 4, x.of(1, 1));
    }

    static void promise18_allAreAskedAsItWasAhead(Due due) {
        HandRing x = Scene.under(Scene.with(0, 4, 0, 0, 4, 0), "tires 1 if day=0");
        x.pass();
        due.same("of(0, 1)", 3, x.of(0, 1));
        due.same("of(1, 1)", 3, x.of(1, 1));
        x.pass();
        due.same("of(1, 1)", 3, x.of(1, 1));
    }

    static void promise18_holdsAreAskedAsItIsBehind(Due due) {
        HandRing x = Scene.under(Scene.ringOf(3), "bars if day=2");
        x.pass();
        due.same("on day 1", 3, x.count(1));
        x.pass();
        due.same("on day 2", 0, x.count(1));
    }

    static void promise18_aHoldAsFarAsBothReachStays(Due due) {
        HandRing x = Scene.under(Scene.with(0, 2, 0, 2, 2, 0), "tires 1");
        x.take(0, 1);
        x.pass();
        due.same("far 2, reach 2", 1, x.count(1));
        x.pass();
        due.same("far 2, reach 0", 0, x.count(1));
    }

    static void promise18_inOneCellAHoldStaysWithoutReach(Due due) {
        HandRing x = Scene.under(Scene.ringOf(3), "tires 4");
        x.pass();
        due.same("of(0, 1)", 0, x.of(0, 1));
        due.same("count(1)", 3, x.count(1));
    }

    static void promise19_thereIsNone(Due due) {
        HandRing x = Scene.crowd(2);
        due.same("undo()", -3, x.undo());
        due.same("status()", -3, x.status());
        due.same("count(8)", 1, x.count(8));
    }

    static void promise19_eachIsToldByItsNumber(Due due) {
        HandRing x = Scene.crowd(2);
        x.take(0, 1);
        x.loose(0, 1);
        x.walk(0, 1);
        x.pass();
        due.same("pass", 3, x.undo());
        due.same("walk", 2, x.undo());
        due.same("loose", 1, x.undo());
        due.same("take", 0, x.undo());
        due.same("there is none", -3, x.undo());
    }

    static void promise19_sixteenAreKept(Due due) {
        HandRing x = Scene.crowd(2);
        x.take(0, 1);
        for (int day = 1; day <= 16; day++) {
            due.same("count(4)", day, x.count(4));
            x.pass();
        }
        due.same("a seventeenth", 16, x.count(4));
        for (int day = 15; day >= 0; day--) {
            due.same("undo()", 3, x.undo());
            due.same("count(12)", day, x.count(12));
        }
        due.same("the take is kept no more", -3, x.undo());
        due.same("count(1)", 1, x.count(1));
    }

    static void promise19_exactlySixteen(Due due) {
        HandRing x = Scene.crowd(2);
        x.take(0, 1);
        for (int day = 1; day <= 15; day++) {
            x.pass();
        }
        for (int day = 14; day >= 0; day--) {
            x.undo();
        }
        due.same("the sixteenth is the take", 0, x.undo());
        due.same("count(1)", 0, x.count(1));
    }

    static void promise19_manyTimesSixteen(Due due) {
        HandRing x = Scene.crowd(1);
        for (int i = 0; i < 100; i++) {
            x.walk(0, new int[] {1, 2, 3, 4}[i % 4]);
        }
        int[] round = {0, 5, 6, 1};
        for (int i = 99; i >= 84; i--) {
            due.same("undo()", 2, x.undo());
            due.same("of(0, 0)", round[i % 4], x.of(0, 0));
        }
        due.same("undo()", -3, x.undo());
    }

    static void promise19_aRefusedOneCostsNoneOfTheSixteen(Due due) {
        HandRing x = Scene.crowd(2);
        x.take(0, 1);
        for (int day = 1; day <= 15; day++) {
            x.pass();
        }
        x.take(0, 1);
        x.take(0, 0);
        x.loose(0, 5);
        x.walk(0, 9);
        x.walk(0, 3);
        due.same("count(4)", 16, x.count(4));
        for (int day = 14; day >= 0; day--) {
            due.same("undo()", 3, x.undo());
        }
        due.same("count(12)", 0, x.count(12));
        due.same("undo()", 0, x.undo());
        due.same("the oldest is as it was", 0, x.count(1));
    }

    static void promise19_byOrdersToo(Due due) {
        HandRing x = Scene.crowd(2);
        x.pass();
        due.same("orders", 3, Due.orders(x, "take 0 with 1;walk 1 to 1;loose 1 from 0"));
        due.same("count(4)", 4, x.count(4));
        due.same("loose", 1, x.undo());
        due.same("count(1)", 1, x.count(1));
        due.same("walk", 2, x.undo());
        due.same("of(1, 0)", 0, x.of(1, 0));
        due.same("take", 0, x.undo());
        due.same("pass", 3, x.undo());
    }

    static void promise19_ofMoreThanSixteenByOrders(Due due) {
        HandRing x = Scene.crowd(2);
        Due.orders(x, "take 0 with 1;pass times 17");
        due.same("count(4)", 16, x.count(4));
        for (int day = 16; day >= 1; day--) {
            due.same("undo()", 3, x.undo());
        }
        due.same("undo()", -3, x.undo());
        due.same("count(12)", 1, x.count(12));
    }

    static void promise19_nothingAheadOfAPerson(Due due) {
        HandRing x = Scene.ringOf(3);
        due.same("refused", -1, x.person(0, 0, 9));
        due.same("count(4)", 3, x.count(4));
        x.person(0, 0, 0);
        due.same("undo()", -3, x.undo());
        due.same("count(1)", 3, x.count(1));
        x.pass();
        due.same("what is behind it can be", 3, x.undo());
        due.same("undo()", -3, x.undo());
    }

    static void promise19_nothingAheadOfTerms(Due due) {
        HandRing x = Scene.ringOf(3);
        due.same("refused", -1, x.terms(0, -1));
        due.same("count(4)", 3, x.count(4));
        x.terms(3, 50);
        due.same("undo()", -3, x.undo());
    }

    static void promise19_nothingAheadOfARow(Due due) {
        HandRing x = Scene.ringOf(3);
        due.same("refused", -6, x.row());
        due.same("count(4)", 3, x.count(4));
        Due.put(x, "\377");
        due.same("a gap alone", 0, x.row());
        due.same("undo()", -3, x.undo());
    }

    static void promise19_nothingBehindBack(Due due) {
        HandRing x = Scene.ringOf(3);
        due.same("refused", -2, x.back(0));
        due.same("refused", -1, x.back(2));
        due.same("count(4)", 3, x.count(4));
        x.image(0);
        due.same("count(4)", 3, x.count(4));
        x.back(0);
        due.same("undo()", -3, x.undo());
    }

    static void promise19_otherCallsLeaveWhatCanBeUndone(Due due) {
        HandRing x = Scene.ringOf(3);
        Due.law(x, "bars");
        x.force(0);
        x.force(7);
        x.seen(0, 1, 1);
        x.forget();
        x.days(1, 60);
        x.image(1);
        x.feed(0, 0, 0, 0, 0);
        x.end(0);
        due.same("count(4)", 3, x.count(4));
        due.same("undo()", 0, x.undo());
        due.same("the law stays in force", 0, x.count(11));
    }

    static void promise19_holdsThatAWalkEndedComeBack(Due due) {
        HandRing x = Scene.with(0, 0, 0, 0, 0, 0, 0, 0, 0);
        x.take(0, 1);
        x.take(0, 2);
        x.walk(0, 2);
        due.same("count(1)", 0, x.count(1));
        due.same("undo()", 2, x.undo());
        due.same("of(0, 3)", 6, x.of(0, 3));
        due.same("of(0, 0)", 0, x.of(0, 0));
    }

    static void promise19_reachThatWasAt0ComesBackAsItWas(Due due) {
        HandRing x = Scene.under(Scene.with(0, 1, 0, 0, 4, 0), "tires 4");
        x.pass();
        due.same("undo()", 3, x.undo());
        due.same("of(0, 1)", 1, x.of(0, 1));
        due.same("of(1, 1)", 4, x.of(1, 1));
        due.same("count(12)", 0, x.count(12));
    }

    static void promise19_ofTheLastDay(Due due) {
        HandRing x = new HandRing();
        x.terms(0, 998);
        x.pass();
        x.pass();
        due.same("undo()", 3, x.undo());
        due.same("count(12)", 998, x.count(12));
        due.same("pass()", 999, x.pass());
    }

    static void promise20_whatIsFrom0To2(Due due) {
        HandRing x = Scene.ringOf(3);
        for (int what : new int[] {-1, 3, LOW, HIGH}) {
            due.same("lights(" + what + ")", NONE, x.lights(what));
        }
    }

    static void promise20_nobodyThere(Due due) {
        HandRing x = new HandRing();
        due.same("lights(0)", 0, x.lights(0));
        due.same("lights(1)", 0, x.lights(1));
        due.same("lights(2)", 0, x.lights(2));
    }

    static void promise20_oneAlone(Due due) {
        due.same("lights(0)", 0, Scene.crowd(1).lights(0));
        due.same("lights(2)", 1, Scene.crowd(1).lights(2));
    }

    static void promise20_threeAtLeast(Due due) {
        HandRing x = Scene.crowd(2);
        x.take(0, 1);
        due.same("two", 0, x.lights(0));
        due.same("three", 1, Scene.ringOf(3).lights(0));
        due.same("eight", 1, Scene.ringOf(8).lights(0));
    }

    static void promise20_noMoreIsLostThanLight(Due due) {
        HandRing x = Scene.under(Scene.ringOf(3), "loses 3");
        x.terms(3, 9);
        due.same("as much", 1, x.lights(0));
        x.terms(3, 8);
        due.same("one more", 0, x.lights(0));
        due.same("lights(1)", 9, x.lights(1));
    }

    static void promise20_aLightOf0(Due due) {
        HandRing x = Scene.ringOf(3);
        x.terms(3, 0);
        due.same("nothing is lost", 1, x.lights(0));
        Scene.under(x, "loses 1 if other=1");
        due.same("1 is lost", 0, x.lights(0));
    }

    static void promise20_theMostThatCanBeLost(Due due) {
        HandRing x = Scene.under(Scene.ringOf(8), "loses 9");
        due.same("lights(1)", 72, x.lights(1));
        due.same("a light of 50", 0, x.lights(0));
        x.terms(3, 72);
        due.same("a light of 72", 1, x.lights(0));
    }

    static void promise20_aRingOfSomeIsNoneOfAll(Due due) {
        HandRing x = Scene.ringOf(3);
        x.person(0, 4, 0);
        due.same("lights(0)", 0, x.lights(0));
        due.same("lights(2)", 7, x.lights(2));
    }

    static void promise20_twoRingsAreNoRingOfAll(Due due) {
        HandRing x = Scene.ringOf(3);
        for (int i = 0; i < 3; i++) {
            x.person(0, 4, 0);
        }
        x.take(3, 4);
        x.take(4, 5);
        x.take(3, 5);
        due.same("lights(0)", 0, x.lights(0));
        due.same("lights(2)", 7, x.lights(2));
    }

    static void promise20_oneHoldTooFew(Due due) {
        HandRing x = Scene.ringOf(5);
        x.loose(4, 0);
        due.same("lights(0)", 0, x.lights(0));
        due.same("lights(2)", 31, x.lights(2));
    }

    static void promise20_withoutHoldsItComesToPerson0Alone(Due due) {
        HandRing x = Scene.crowd(8);
        due.same("lights(2)", 1, x.lights(2));
        x.take(1, 2);
        due.same("lights(2)", 1, x.lights(2));
        x.take(7, 0);
        due.same("lights(2)", 129, x.lights(2));
    }

    static void promise20_alongARowOfAll(Due due) {
        HandRing x = Scene.crowd(8);
        for (int[] two : new int[][] {{0, 7}, {7, 1}, {1, 6}, {6, 2}, {2, 5}, {5, 3}, {3, 4}}) {
            x.take(two[0], two[1]);
        }
        due.same("lights(2)", 255, x.lights(2));
    }
}
