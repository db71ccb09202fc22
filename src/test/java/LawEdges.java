/** Boundary cases of promises 10 and 12: the language of laws, what they tell, and where a text has its fault. */
final class LawEdges {
    private static final int NONE = HandRing.NONE;

    private LawEdges() {
    }

    private static String times(int n, String text) {
        return text.repeat(n);
    }

    /** A law of that text: where its fault is, and what else is due if it has one or has none. */
    private static void fault(Due due, String text, int place) {
        HandRing x = new HandRing();
        due.same("law of '" + text + "'", place == NONE ? 0 : -6, Due.law(x, text));
        due.same("fault of '" + text + "'", place, x.fault());
        due.same("laws behind '" + text + "'", place == NONE ? 1 : 0, x.count(3));
        due.same("tape behind '" + text + "'", 0, x.count(5));
        due.same("status behind '" + text + "'", place == NONE ? 0 : -6, x.status());
    }

    /** What is lost between two of reach 1 and 2, kind 2 and 3, three apart, on day 5, in mood 6. */
    private static int lost(String law) {
        HandRing x = Scene.with(0, 1, 2, 7, 2, 3);
        x.terms(0, 5);
        x.terms(2, 6);
        return Scene.under(x, law).asks(0, 1, 1);
    }

    /** Whether a test is so (1), is not so (2) or is broken (3). */
    private static int test(String test) {
        return lost("loses 3;loses 2 if not (" + test + ");loses 1 if " + test);
    }

    /** What a sum comes to, 9 if it is broken. */
    private static int sum(String sum) {
        return lost("loses 9;loses " + sum);
    }

    static void promise10_thereAreSixLawsAtMost(Due due) {
        HandRing x = new HandRing();
        for (int law = 0; law < 6; law++) {
            due.same("law " + law, law, Due.law(x, "loses " + law));
        }
        due.same("a seventh", -5, Due.law(x, "loses 6"));
        due.same("status()", -5, x.status());
        due.same("count(9)", 1, x.count(9));
        due.same("count(3)", 6, x.count(3));
    }

    static void promise10_withoutRoomTheTapeIsEmptyThenToo(Due due) {
        HandRing x = sixLaws();
        Due.law(x, "loses 6");
        due.same("count(5)", 0, x.count(5));
    }

    static void promise10_withoutRoomItIsNotRead(Due due) {
        HandRing x = sixLaws();
        due.same("a text that can't be", -5, Due.law(x, "loses"));
        due.same("fault()", NONE, x.fault());
        due.same("an empty tape", -5, x.law());
        due.same("blanks", -5, Due.law(x, "   "));
        due.same("count(10)", 0, x.count(10));
    }

    static void promise10_withoutRoomTheOthersStay(Due due) {
        HandRing x = sixLaws();
        x.person(0, 4, 0);
        x.person(0, 4, 0);
        Due.law(x, "loses 9");
        for (int law = 0; law < 6; law++) {
            x.force(law);
            due.same("law " + law, law, x.asks(0, 1, 1));
        }
    }

    private static HandRing sixLaws() {
        HandRing x = new HandRing();
        for (int law = 0; law < 6; law++) {
            Due.law(x, "loses " + law);
        }
        return x;
    }

    static void promise10_anEmptyTape(Due due) {
        fault(due, "", 0);
    }

    static void promise10_blanksAloneHaveTheirFaultAtTheEnd(Due due) {
        fault(due, " ", 1);
        fault(due, "   ", 3);
        fault(due, times(400, " "), 400);
    }

    static void promise10_aFullTape(Due due) {
        fault(due, times(393, " ") + "loses 7", NONE);
        fault(due, times(395, " ") + "loses", 400);
        fault(due, "loses " + times(393, "0") + "1", NONE);
        fault(due, times(399, " ") + "x", 399);
    }

    static void promise10_refusedItIsNoLaw(Due due) {
        HandRing x = Scene.under(Scene.crowd(2), "loses 4");
        Due.law(x, "loses 1;loses 2;loses");
        due.same("count(3)", 1, x.count(3));
        due.same("asks(0, 1, 1)", 4, x.asks(0, 1, 1));
        due.same("the next one's number", 1, Due.law(x, "loses 5"));
    }

    static void promise10_itIsNotInForceByItself(Due due) {
        HandRing x = Scene.crowd(2);
        Due.law(x, "loses 4");
        due.same("count(11)", NONE, x.count(11));
        due.same("asks(0, 1, 1)", 0, x.asks(0, 1, 1));
    }

    static void promise10_itLeavesWhatCanBeUndone(Due due) {
        HandRing x = Scene.ringOf(3);
        Due.law(x, "bars");
        Due.law(x, "bar");
        due.same("count(4)", 3, x.count(4));
    }

    static void promise10_twelveClausesAtMost(Due due) {
        fault(due, "bars" + times(11, ";bars"), NONE);
        fault(due, "bars" + times(12, ";bars"), 60);
    }

    static void promise10_theThirteenthsFirstTokenIsTheFault(Due due) {
        fault(due, "bars" + times(11, ";bars") + ";   bars", 63);
        fault(due, "bars" + times(11, ";bars") + ";x", 60);
        fault(due, "bars" + times(11, ";bars") + ";loses", 60);
        fault(due, "bars" + times(11, ";bars") + "; ", 61);
    }

    static void promise10_aTwelfthClauseCounts(Due due) {
        due.same("the twelfth tells", 8, lost(times(11, "loses 1;") + "loses 8"));
    }

    static void promise10_numbersGoTo1000(Due due) {
        fault(due, "loses 1000", NONE);
        fault(due, "loses 1001", 6);
        fault(due, "loses 1+1001", 8);
        fault(due, "loses 10000", 6);
        fault(due, "loses 4294967296", 6);
        fault(due, "loses 4294967297", 6);
        fault(due, "loses 18446744073709551617", 6);
    }

    static void promise10_noughtsAheadOfANumber(Due due) {
        fault(due, "loses 0000000000000000000001000", NONE);
        fault(due, "loses 0000000000000000000001001", 6);
        due.same("loses 007", 7, lost("loses 007"));
    }

    static void promise10_fiftyPartsAtMost(Due due) {
        fault(due, "loses 1" + times(49, "+1"), NONE);
        fault(due, "loses 1" + times(50, "+1"), 106);
        fault(due, "loses 1" + times(49, "+1") + "+one", 106);
        fault(due, "loses one" + times(49, "+one"), NONE);
        fault(due, "loses one" + times(50, "+one"), 206);
    }

    static void promise10_partsOfAllClausesAndTestsCount(Due due) {
        fault(due, "loses 1" + times(47, "+1") + ";bars if 1=1", NONE);
        fault(due, "loses 1" + times(47, "+1") + ";bars if 1=1;bars", NONE);
        fault(due, "loses 1" + times(47, "+1") + ";bars if 1=1;loses 1", 120);
        fault(due, "loses 1" + times(47, "+1") + ";bars if 1=1 or 1=1", 117);
    }

    static void promise10_partsOfEachTextCountAnew(Due due) {
        HandRing x = Scene.crowd(2);
        for (int law = 0; law < 6; law++) {
            due.same("fifty parts", law, Due.law(x, "loses " + law + times(49, "+0")));
        }
        for (int law = 0; law < 6; law++) {
            x.force(law);
            due.same("what the law " + law + " tells", law, x.asks(0, 1, 1));
        }
        for (int text = 0; text < 6; text++) {
            due.same("orders of fifty parts", 1, Due.orders(x, "pass if 1" + times(48, "+1") + "=49"));
        }
    }

    static void promise10_bracketsOfEachTextCountAnew(Due due) {
        HandRing x = new HandRing();
        due.same("eight left open", -6, Due.law(x, "bars if " + times(8, "(") + "1=1"));
        due.same("eight again", 0, Due.law(x, "bars if " + times(8, "(") + "1=1" + times(8, ")")));
        due.same("eight left open", -6, Due.orders(x, "pass if " + times(8, "(") + "1=1"));
        due.same("eight again", 1, Due.orders(x, "pass if " + times(8, "(") + "1=1" + times(8, ")")));
    }

    static void promise10_bracketsAreNoParts(Due due) {
        fault(due, "loses [1" + times(49, "+1") + "]", NONE);
        fault(due, "loses [1]" + times(49, "+[1]"), NONE);
        fault(due, "loses [1]" + times(50, "+[1]"), 207);
    }

    static void promise10_eightBracketsWithinOneAnother(Due due) {
        fault(due, "loses " + times(8, "[") + "1" + times(8, "]"), NONE);
        fault(due, "loses " + times(9, "[") + "1" + times(9, "]"), 14);
        fault(due, "bars if " + times(8, "(") + "1=1" + times(8, ")"), NONE);
        fault(due, "bars if " + times(9, "(") + "1=1" + times(9, ")"), 16);
    }

    static void promise10_bracketsOfBothKindsCountTogether(Due due) {
        fault(due, "bars if " + times(4, "(") + times(4, "[") + "1" + times(4, "]") + "=1" + times(4, ")"), NONE);
        fault(due, "bars if " + times(4, "(") + times(5, "[") + "1" + times(5, "]") + "=1" + times(4, ")"), 16);
        fault(due, "bars if " + times(8, "(") + "1=[1]" + times(8, ")"), 18);
    }

    static void promise10_bracketsBesideOneAnotherDoNotCount(Due due) {
        fault(due, "loses [[1]]" + times(20, "+[[1]]"), NONE);
        fault(due, "bars if (1=1)" + times(20, " and (1=1)"), NONE);
        fault(due, "loses " + times(8, "[") + "1" + times(8, "]") + "+" + times(8, "[") + "1" + times(8, "]"), NONE);
        fault(due, "loses " + times(8, "[") + "1" + times(8, "]") + ";bars if " + times(8, "(") + "1=1"
            + times(8, ")"), NONE);
    }

    static void promise10_notIsNoBracket(Due due) {
        fault(due, "bars if " + times(90, "not ") + "1=1", NONE);
        due.same("an even row", 1, test(times(40, "not ") + "1=1"));
        due.same("an odd row", 2, test(times(41, "not ") + "1=1"));
    }

    static void promise10_lettersAreFromATOZ(Due due) {
        fault(due, "Bars", 0);
        fault(due, "cars", 0);
        fault(due, "loses onez", 6);
        fault(due, "loses aone", 6);
        fault(due, "barS", 0);
        fault(due, "bars`", 4);
        fault(due, "bars{", 4);
        fault(due, "loses on" + (char) 229, 6);
    }

    static void promise10_tokensAreTheLongestRows(Due due) {
        fault(due, "losesone", 0);
        fault(due, "loses oneother", 6);
        fault(due, "bars ifone=1", 5);
        fault(due, "loses1", NONE);
        fault(due, "bars if1=1or2=2and3=3", NONE);
        fault(due, "loses 10 00", 9);
        fault(due, "los es 1", 0);
        fault(due, "loses o ne", 6);
    }

    static void promise10_onlyBlanksGoBetween(Due due) {
        fault(due, "   loses   1   ", NONE);
        fault(due, "loses\t1", 5);
        fault(due, "loses\n1", 5);
        fault(due, "loses 1\0", 7);
        fault(due, "loses 1" + (char) 160, 7);
        fault(due, "loses 1" + (char) 255, 7);
    }

    static void promise10_theEndsFaultIsTheTextsLength(Due due) {
        fault(due, "loses", 5);
        fault(due, "loses  ", 7);
        fault(due, "loses 1+", 8);
        fault(due, "loses [1", 8);
        fault(due, "bars if", 7);
        fault(due, "bars if 1", 9);
        fault(due, "bars if 1=", 10);
        fault(due, "bars if (1=1", 12);
        fault(due, "bars if not", 11);
        fault(due, "bars if 1=1 and", 15);
        fault(due, "bars;", 5);
        fault(due, "bars;  ", 7);
    }

    static void promise10_theFirstTokenThatCanNotGoOn(Due due) {
        fault(due, "1", 0);
        fault(due, ";bars", 0);
        fault(due, "bars;;bars", 5);
        fault(due, "bars bars", 5);
        fault(due, "bars 1", 5);
        fault(due, "loses 1 1", 8);
        fault(due, "loses -1", 6);
        fault(due, "loses +1", 6);
        fault(due, "loses (1)", 6);
        fault(due, "loses []", 7);
        fault(due, "loses [1)", 8);
        fault(due, "loses 1]", 7);
        fault(due, "loses if 1=1", 6);
        fault(due, "bars if 1", 9);
        fault(due, "bars if 1+1", 11);
        fault(due, "bars if 1<2<3", 11);
        fault(due, "bars if 1<=2", 10);
        fault(due, "bars if [1=1]", 10);
        fault(due, "bars if (1=1]", 12);
        fault(due, "bars if (1)=1", 10);
        fault(due, "bars if 1=1)", 11);
        fault(due, "bars if 1=1 or or 1=1", 15);
        fault(due, "bars if 1=1 if 1=1", 12);
        fault(due, "bars if and", 8);
        fault(due, "bars if 1=not 1=1", 10);
    }

    static void promise10_wordsOfOrdersAreNone(Due due) {
        fault(due, "loses done", 6);
        fault(due, "loses latest", 6);
        fault(due, "loses holds", 6);
        fault(due, "loses lost", 6);
        fault(due, "loses cell 1", 6);
        fault(due, "loses hands 1", 6);
        fault(due, "take 0 with 1", 0);
        fault(due, "pass", 0);
        fault(due, "bars times 2", 5);
    }

    static void promise10_aThousandMillionIsNotBeyond(Due due) {
        due.same("1000*1000*1000", 1, test("1000*1000*1000>0"));
        due.same("the other way", 1, test("0-1000*1000*1000<0"));
    }

    static void promise10_beyondAThousandMillionItIsBroken(Due due) {
        due.same("one more", 3, test("1000*1000*1000+1>0"));
        due.same("one less", 3, test("0-1000*1000*1000-1<0"));
        due.same("much more", 3, test("1000*1000*1000*1000*1000*1000*1000>0"));
        due.same("a sum", 9, sum("1000*1000*1000+1"));
    }

    static void promise10_beyondOnTheWayItIsBroken(Due due) {
        due.same("and back", 3, test("1000*1000*1000+1-1>0"));
        due.same("and divided", 3, test("1000*1000*1000*1000/1000>0"));
        due.same("and times 0", 3, test("0*[1000*1000*1000+1]=0"));
        due.same("in the other sum", 3, test("0<1000*1000*1000*2"));
        due.same("times what would wrap to a small number", 3, test("[1000*1000*1000]*[1000*1000*1000]>0"));
    }

    static void promise10_dividedBy0ItIsBroken(Due due) {
        due.same("1/0", 3, test("1/0=0"));
        due.same("0/0", 3, test("0/0=0"));
        due.same("1%0", 3, test("1%0=0"));
        due.same("0%0", 3, test("0%0=0"));
        due.same("a sum that is 0", 3, test("1/[one-0]=0"));
        due.same("a sum", 9, sum("1/0"));
        due.same("0 divided", 1, test("0/1=0"));
    }

    static void promise10_dividingIsCutTowards0(Due due) {
        due.same("7/2", 1, test("7/2=3"));
        due.same("0-7 by 2", 1, test("[0-7]/2=0-3"));
        due.same("7 by 0-2", 1, test("7/[0-2]=0-3"));
        due.same("0-7 by 0-2", 1, test("[0-7]/[0-2]=3"));
        due.same("1/2", 1, test("1/2=0"));
        due.same("0-1 by 2", 1, test("[0-1]/2=0"));
    }

    static void promise10_whatIsLeftThen(Due due) {
        due.same("7%2", 1, test("7%2=1"));
        due.same("0-7 by 2", 1, test("[0-7]%2=0-1"));
        due.same("7 by 0-2", 1, test("7%[0-2]=1"));
        due.same("0-7 by 0-2", 1, test("[0-7]%[0-2]=0-1"));
        due.same("6%2", 1, test("6%2=0"));
    }

    static void promise10_orAsksWhatStandsBehindOnlyIfItMatters(Due due) {
        due.same("so already", 1, test("1=1 or 1/0=0"));
        due.same("not so yet", 3, test("1=2 or 1/0=0"));
        due.same("broken ahead", 3, test("1/0=0 or 1=1"));
        due.same("the third", 1, test("1=2 or 1=1 or 1/0=0"));
        due.same("both behind", 1, test("1=1 or 1/0=0 or 1/0=0"));
        due.same("with and behind", 1, test("1=1 or 1=1 and 1/0=0"));
    }

    static void promise10_andAsksWhatStandsBehindOnlyIfItMatters(Due due) {
        due.same("not so already", 2, test("1=2 and 1/0=0"));
        due.same("so yet", 3, test("1=1 and 1/0=0"));
        due.same("broken ahead", 3, test("1/0=0 and 1=2"));
        due.same("the third", 2, test("1=1 and 1=2 and 1/0=0"));
        due.same("and an or behind", 1, test("1=2 and 1/0=0 or 1=1"));
        due.same("in brackets", 2, test("1=2 and (1/0=0 or 1=1)"));
    }

    static void promise10_notOfWhatIsBrokenIsBroken(Due due) {
        due.same("not", 3, test("not 1/0=0"));
        due.same("not of brackets", 3, test("not (1=1 and 1/0=0)"));
        due.same("not where it can't matter", 1, test("not (1=2 and 1/0=0)"));
    }

    static void promise10_equalIsNeitherLessNorMore(Due due) {
        due.same("2<2", 2, test("2<2"));
        due.same("2>2", 2, test("2>2"));
        due.same("2=2", 1, test("2=2"));
        due.same("1<2", 1, test("1<2"));
        due.same("2>1", 1, test("2>1"));
        due.same("1=2", 2, test("1=2"));
    }

    static void promise10_theLastClauseThatHoldsTells(Due due) {
        due.same("two", 2, lost("loses 1;loses 2"));
        due.same("the last one's test is not so", 1, lost("loses 1;loses 2 if 1=2"));
        due.same("the last one's test is broken", 1, lost("loses 1;loses 2 if 1/0=1"));
        due.same("the last one's sum is broken", 1, lost("loses 1;loses 2/0"));
        due.same("another kind behind", 1, lost("loses 1;tires 2;bars"));
        due.same("the last one beyond what is lost", 9, lost("loses 1;loses 99"));
    }

    static void promise10_oneBarsThatHoldsIsEnough(Due due) {
        due.same("ahead of one that does not", 1,
            Scene.under(Scene.crowd(2), "bars;bars if 1=2").asks(0, 1, 2));
        due.same("behind one that does not", 1,
            Scene.under(Scene.crowd(2), "bars if 1/0=0;bars").asks(0, 1, 2));
        due.same("broken", 0, Scene.under(Scene.crowd(2), "bars if 1/0=0").asks(0, 1, 2));
        due.same("not so", 0, Scene.under(Scene.crowd(2), "bars if 1=2").asks(0, 1, 2));
    }

    static void promise10_oneIsTheLowerNumberFromEitherSide(Due due) {
        HandRing x = Scene.under(Scene.with(0, 4, 3, 0, 4, 1, 0, 4, 2), "loses one*4+other;bars if kind=3 and kin=2");
        due.same("asks(1, 2, 1)", 6, x.asks(1, 2, 1));
        due.same("asks(2, 1, 1)", 6, x.asks(2, 1, 1));
        due.same("asks(2, 0, 2)", 1, x.asks(2, 0, 2));
        due.same("asks(0, 2, 2)", 1, x.asks(0, 2, 2));
        due.same("asks(0, 1, 2)", 0, x.asks(0, 1, 2));
    }

    static void promise10_tiresKnowsOfNoOther(Due due) {
        String[] laws = {"tires 4 if other=0-1", "tires 4 if kin=0-1", "tires 4 if far=0-1"};
        for (String law : laws) {
            due.same(law, 4, Scene.under(Scene.with(7, 2, 3, 9, 1, 1), law).of(0, 5));
            due.same(law, 4, Scene.under(Scene.with(7, 2, 3, 9, 1, 1), law).of(1, 5));
        }
    }

    static void promise10_tiresKnowsOfItsOwn(Due due) {
        HandRing x = Scene.with(7, 2, 3, 9, 1, 1);
        due.same("one", 1, Scene.under(x, "tires one").of(1, 5));
        due.same("kind", 3, Scene.under(x, "tires kind").of(0, 5));
        due.same("reach", 2, Scene.under(x, "tires reach").of(0, 5));
        due.same("reach", 1, Scene.under(x, "tires reach").of(1, 5));
    }

    static void promise10_reachOfTwoIsThatOfBothTogether(Due due) {
        due.same("loses reach", 8, Scene.under(Scene.crowd(2), "loses reach").asks(0, 1, 1));
    }

    static void promise10_aSingleClauseOfEachKind(Due due) {
        fault(due, "loses 0", NONE);
        fault(due, "tires 0", NONE);
        fault(due, "bars", NONE);
        fault(due, "tires", 5);
        fault(due, "loses 1 if 1=1;tires 1 if 1=1;bars if 1=1", NONE);
    }

    static void promise12_noneAheadOfAnyText(Due due) {
        due.same("fault()", NONE, new HandRing().fault());
    }

    static void promise12_noneBehindATextWithout(Due due) {
        HandRing x = new HandRing();
        Due.law(x, "loses");
        due.same("fault()", 5, x.fault());
        Due.law(x, "bars");
        due.same("fault()", NONE, x.fault());
    }

    static void promise12_ofTheLatestOfBothKinds(Due due) {
        HandRing x = new HandRing();
        Due.law(x, "loses");
        Due.orders(x, "pas");
        due.same("fault()", 0, x.fault());
        Due.law(x, "bars if");
        due.same("fault()", 7, x.fault());
        Due.orders(x, "pass");
        due.same("fault()", NONE, x.fault());
    }

    static void promise12_aLawThatWasNotReadLeavesIt(Due due) {
        HandRing x = sixLaws();
        Due.orders(x, "pass if");
        due.same("fault()", 7, x.fault());
        due.same("a seventh law", -5, Due.law(x, "bars"));
        due.same("fault()", 7, x.fault());
        Due.orders(x, "pass");
        due.same("a seventh law that can't be", -5, Due.law(x, "loses"));
        due.same("fault()", NONE, x.fault());
    }

    static void promise12_ofAnEmptyTapeIsAt0(Due due) {
        HandRing x = new HandRing();
        x.law();
        due.same("fault() of law()", 0, x.fault());
        Due.law(x, "bars");
        x.orders();
        due.same("fault() of orders()", 0, x.fault());
    }

    static void promise12_ordersThatCanNotBeHaveNone(Due due) {
        HandRing x = new HandRing();
        Due.law(x, "loses");
        due.same("orders", -3, Due.orders(x, "take 0 with 1"));
        due.same("fault()", NONE, x.fault());
    }

    static void promise12_aRowLeavesIt(Due due) {
        HandRing x = new HandRing();
        Due.law(x, "loses");
        Due.put(x, "\1\1\1");
        x.row();
        x.row();
        due.same("fault()", 5, x.fault());
    }

    static void promise12_imagesDoNotKeepIt(Due due) {
        HandRing x = new HandRing();
        x.image(0);
        Due.law(x, "loses");
        x.back(0);
        due.same("fault()", 5, x.fault());
    }
}
