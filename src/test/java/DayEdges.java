/** Boundary cases of promises 34 to 39: days by draws, images, counts and what a call was refused by. */
final class DayEdges {
    private static final int NONE = HandRing.NONE;
    private static final int LOW = Integer.MIN_VALUE;
    private static final int HIGH = Integer.MAX_VALUE;

    private DayEdges() {
    }

    private static int next(int s) {
        return (int) ((s * 1103L + 12345L) % 1000003L);
    }

    /** Where one alone in cell 0 comes by so many draws of three: it goes up at each 2 till the edge. */
    private static int cellOfOneAlone(int seed, int n) {
        int s = seed;
        int cell = 0;
        for (int i = 0; i < n; i++) {
            s = next(next(next(s)));
            cell += s % 3 == 2 && cell < 20 ? 5 : 0;
        }
        return cell;
    }

    static void promise34_theSeedIsFrom0To1000000(Due due) {
        HandRing x = Scene.crowd(1);
        for (int seed : new int[] {-1, 1000001, 1000003, LOW, HIGH}) {
            due.same("days(" + seed + ", 1)", -1, x.days(seed, 1));
        }
        due.same("count(6)", 5, x.count(6));
        for (int seed : new int[] {0, 1000000}) {
            due.same("days(" + seed + ", 7)", 0, x.days(seed, 7));
            due.same("drawn(0, 0)", cellOfOneAlone(seed, 7), x.drawn(0, 0));
        }
    }

    static void promise34_nIsFrom1To60(Due due) {
        HandRing x = Scene.crowd(1);
        for (int n : new int[] {0, 61, -1, LOW, HIGH}) {
            due.same("days(5, " + n + ")", -1, x.days(5, n));
        }
        Scene.under(x, "tires 1 if day=0");
        due.same("days(5, 1)", 0, x.days(5, 1));
        due.same("drawn(0, 1)", 3, x.drawn(0, 1));
        Scene.under(x, "tires 1 if day=59;tires 2 if day=60");
        due.same("days(5, 60)", 0, x.days(5, 60));
        due.same("drawn(0, 1)", 3, x.drawn(0, 1));
        due.same("days(5, 59)", 0, x.days(5, 59));
        due.same("drawn(0, 1)", 4, x.drawn(0, 1));
    }

    static void promise34_nobodyIsThere(Due due) {
        HandRing x = new HandRing();
        due.same("days(0, 1)", -3, x.days(0, 1));
        due.same("status()", -3, x.status());
        due.same("count(8)", 1, x.count(8));
        due.same("drawn(0, 0)", NONE, x.drawn(0, 0));
    }

    static void promise34_aNumberThatCanNotBeIsToldAheadOfNobody(Due due) {
        HandRing x = new HandRing();
        due.same("days(-1, 1)", -1, x.days(-1, 1));
        due.same("days(0, 0)", -1, x.days(0, 0));
        due.same("days(0, 61)", -1, x.days(0, 61));
    }

    static void promise34_atDay999ItEndsAtOnce(Due due) {
        HandRing x = Scene.under(Scene.crowd(1), "tires 1");
        x.terms(0, 999);
        due.same("days(1, 60)", 0, x.days(1, 60));
        due.same("status()", 0, x.status());
        due.same("drawn(0, 0)", 0, x.drawn(0, 0));
        due.same("drawn(0, 1)", 4, x.drawn(0, 1));
    }

    static void promise34_day999EndsItOnTheWay(Due due) {
        HandRing x = Scene.under(Scene.crowd(1), "tires 1");
        x.terms(0, 998);
        x.days(1, 60);
        due.same("one day from 998", 3, x.drawn(0, 1));
        x.terms(0, 997);
        x.days(1, 60);
        due.same("two days from 997", 2, x.drawn(0, 1));
        x.terms(0, 990);
        for (int seed = 0; seed < 20; seed++) {
            x.days(seed, 60);
            due.same("nine times from 990", cellOfOneAlone(seed, 9), x.drawn(0, 0));
        }
    }

    static void promise34_oneAloneTakesNoHands(Due due) {
        HandRing x = Scene.crowd(1);
        for (int seed = 0; seed < 30; seed++) {
            due.same("days(" + seed + ", 5)", 0, x.days(seed, 5));
            due.same("drawn(0, 0)", cellOfOneAlone(seed, 5), x.drawn(0, 0));
            due.same("drawn(0, 2)", 0, x.drawn(0, 2));
        }
    }

    static void promise34_whatCanNotBeIsLeftAndTheDayPasses(Due due) {
        HandRing x = Scene.under(Scene.crowd(2), "bars;tires 1 if day=4");
        for (int seed = 0; seed < 20; seed++) {
            due.same("all barred, days(" + seed + ", 5)", 0, x.days(seed, 5));
            due.same("the fifth day passes", 3, x.drawn(0, 1));
        }
    }

    static void promise34_aPersonsNumberIsAWayModulo4(Due due) {
        int[] seen = new int[5];
        for (int seed = 0; seed < 400; seed++) {
            int first = next(seed);
            int second = next(first);
            if (next(second) % 3 == 2) {
                int way = second % 8 % 4 + 1;
                seen[way]++;
                HandRing x = Scene.with(12, 0, 0, 12, 0, 0, 12, 0, 0, 12, 0, 0, 12, 0, 0, 12, 0, 0, 12, 0, 0, 12, 0, 0);
                x.days(seed, 1);
                int[] cells = {12, 17, 13, 7, 11};
                due.same("seed " + seed, cells[way], x.drawn(first % 8, 0));
            }
        }
        for (int way = 1; way <= 4; way++) {
            due.same("whether the way " + way + " was drawn", 1, seen[way] > 0 ? 1 : 0);
        }
    }

    static void promise34_takeAt0AndLooseAt1(Due due) {
        int taken = 0;
        int loosed = 0;
        for (int seed = 0; seed < 100; seed++) {
            int first = next(seed);
            int second = next(first);
            int deed = next(second) % 3;
            int one = first % 3;
            int other = second % 3;
            if (deed < 2 && one != other) {
                taken += 1 - deed;
                loosed += deed;
                due.same("none are held, seed " + seed, deed == 0 ? 1 : 0, Scene.crowd(3).days(seed, 1));
                due.same("all are held, seed " + seed, deed == 0 ? 3 : 2, Scene.ringOf(3).days(seed, 1));
            }
        }
        due.same("whether both were drawn", 1, taken > 0 && loosed > 0 ? 1 : 0);
    }

    static void promise34_itIsOnPaper(Due due) {
        HandRing x = Scene.under(Scene.ringOf(4), "tires 1");
        x.walk(0, 1);
        String ahead = Scene.picture(x).replaceAll("\\|.*", "");
        int tired = x.of(0, 1);
        x.days(17, 60);
        due.same("counts", ahead, Scene.picture(x).replaceAll("\\|.*", ""));
        due.same("of(0, 1)", tired, x.of(0, 1));
        due.same("of(0, 0)", 5, x.of(0, 0));
    }

    static void promise34_refusedTheLatestStay(Due due) {
        HandRing x = Scene.under(Scene.crowd(1), "tires 1");
        x.days(1, 2);
        x.days(1, 61);
        x.days(-1, 1);
        due.same("drawn(0, 1)", 2, x.drawn(0, 1));
    }

    static void promise34_lessThan0IsNeverDrawn(Due due) {
        HandRing x = Scene.crowd(8);
        for (int seed = 999900; seed <= 1000000; seed++) {
            int holds = x.days(seed, 60);
            due.same("whether holds of seed " + seed + " are some", 1, holds >= 0 && holds <= 8 ? 1 : 0);
        }
    }

    static void promise35_aheadOfAnyDays(Due due) {
        HandRing x = Scene.crowd(3);
        for (int what = 0; what <= 2; what++) {
            due.same("drawn(0, " + what + ")", NONE, x.drawn(0, what));
        }
        x.days(0, 61);
        due.same("behind refused ones", NONE, x.drawn(0, 0));
    }

    static void promise35_whatIsFrom0To2(Due due) {
        HandRing x = Scene.crowd(3);
        x.days(0, 1);
        for (int what : new int[] {-1, 3, LOW, HIGH}) {
            due.same("drawn(0, " + what + ")", NONE, x.drawn(0, what));
        }
    }

    static void promise35_nobodyOfThatNumber(Due due) {
        HandRing x = Scene.crowd(3);
        x.days(0, 1);
        for (int person : new int[] {-1, 3, 8, LOW, HIGH}) {
            due.same("drawn(" + person + ", 0)", NONE, x.drawn(person, 0));
        }
        due.same("drawn(2, 1)", 4, x.drawn(2, 1));
    }

    static void promise35_whoCameBehindThemIsNotAmongThem(Due due) {
        HandRing x = Scene.crowd(1);
        x.days(0, 1);
        x.person(3, 1, 1);
        due.same("drawn(1, 0)", NONE, x.drawn(1, 0));
        x.days(0, 1);
        due.same("drawn(1, 1)", 1, x.drawn(1, 1));
    }

    static void promise35_theLatestAreToldOfTheirTime(Due due) {
        HandRing x = Scene.under(Scene.crowd(1), "tires 1");
        x.days(0, 2);
        x.pass();
        x.walk(0, 2);
        due.same("drawn(0, 1)", 2, x.drawn(0, 1));
        due.same("drawn(0, 0) goes up alone", 0, x.drawn(0, 0) % 5);
    }

    static void promise35_imagesDoNotKeepThem(Due due) {
        HandRing x = Scene.under(Scene.crowd(1), "tires 1");
        x.days(0, 1);
        x.image(0);
        x.days(0, 3);
        x.back(0);
        due.same("drawn(0, 1)", 1, x.drawn(0, 1));
    }

    static void promise36_thereAreTwo(Due due) {
        HandRing x = new HandRing();
        for (int k : new int[] {-1, 2, LOW, HIGH}) {
            due.same("image(" + k + ")", -1, x.image(k));
        }
        due.same("count(6)", 4, x.count(6));
        due.same("image(0)", 0, x.image(0));
        due.same("image(1)", 0, x.image(1));
    }

    static void promise36_refusedNoneIsKept(Due due) {
        HandRing x = new HandRing();
        x.image(2);
        x.image(-1);
        due.same("back(0)", -2, x.back(0));
        due.same("back(1)", -2, x.back(1));
    }

    static void promise36_ofAVillageWithoutPeople(Due due) {
        HandRing x = new HandRing();
        due.same("image(0)", 0, x.image(0));
        x.person(0, 0, 0);
        due.same("back(0)", 0, x.back(0));
        due.same("count(0)", 0, x.count(0));
        due.same("of(0, 0)", NONE, x.of(0, 0));
        due.same("person", 0, x.person(1, 1, 1));
    }

    static void promise36_ofAFullVillage(Due due) {
        HandRing x = Scene.ringOf(8);
        x.image(0);
        x.loose(0, 7);
        x.back(0);
        due.same("count(0)", 8, x.count(0));
        due.same("count(1)", 8, x.count(1));
        due.same("person", -5, x.person(0, 0, 0));
    }

    static void promise36_keptAgainTheFormerIsGone(Due due) {
        HandRing x = Scene.crowd(1);
        x.image(0);
        x.person(0, 0, 0);
        x.image(0);
        x.person(0, 0, 0);
        x.back(0);
        due.same("count(0)", 2, x.count(0));
    }

    static void promise36_bothAreKeptApart(Due due) {
        HandRing x = Scene.crowd(1);
        x.image(0);
        x.person(0, 0, 0);
        x.image(1);
        x.person(0, 0, 0);
        x.back(0);
        due.same("count(0)", 1, x.count(0));
        x.back(1);
        due.same("count(0)", 2, x.count(0));
    }

    static void promise36_itChangesNothing(Due due) {
        HandRing x = Scene.under(Scene.ringOf(3), "loses 2");
        x.seen(0, 1, 1);
        x.feed(0, 0, 0, 0, 0);
        String ahead = Scene.picture(x);
        x.image(0);
        due.same("all behind it", ahead, Scene.picture(x));
    }

    static void promise37_thereAreTwo(Due due) {
        HandRing x = new HandRing();
        x.image(0);
        x.image(1);
        for (int k : new int[] {-1, 2, LOW, HIGH}) {
            due.same("back(" + k + ")", -1, x.back(k));
        }
        due.same("back(0)", 0, x.back(0));
        due.same("back(1)", 0, x.back(1));
    }

    static void promise37_itWasNotKept(Due due) {
        HandRing x = Scene.ringOf(3);
        x.image(1);
        String ahead = Scene.picture(x);
        due.same("back(0)", -2, x.back(0));
        due.same("status()", -2, x.status());
        due.same("count(7)", 1, x.count(7));
        due.same("all behind it", ahead, Scene.picture(x));
    }

    static void promise37_nothingCanBeUndoneBehindIt(Due due) {
        HandRing x = Scene.ringOf(3);
        x.image(0);
        x.back(0);
        due.same("count(4)", 0, x.count(4));
        due.same("undo()", -3, x.undo());
        due.same("count(1)", 3, x.count(1));
        x.pass();
        due.same("what is behind it can be", 3, x.undo());
    }

    static void promise37_imagesStay(Due due) {
        HandRing x = Scene.crowd(1);
        x.image(0);
        for (int i = 0; i < 3; i++) {
            x.person(0, 0, 0);
            due.same("back(0)", 0, x.back(0));
            due.same("count(0)", 1, x.count(0));
        }
    }

    static void promise37_whatIsDoneBehindItDoesNotChangeTheImage(Due due) {
        HandRing x = Scene.under(Scene.ringOf(3), "loses 1");
        x.seen(0, 1, 1);
        x.image(1);
        String then = Scene.picture(x).replaceFirst(" 4:\\d+ ", " ");
        x.back(1);
        x.loose(0, 1);
        x.walk(1, 1);
        x.terms(2, 5);
        x.forget();
        x.force(NONE);
        x.back(1);
        due.same("as it was then", then, Scene.picture(x).replaceFirst(" 4:\\d+ ", " "));
    }

    static void promise37_lawsComeAndGo(Due due) {
        HandRing x = Scene.under(Scene.crowd(2), "loses 1");
        x.image(0);
        Scene.under(x, "loses 2");
        x.image(1);
        x.back(0);
        due.same("count(3)", 1, x.count(3));
        due.same("count(11)", 0, x.count(11));
        due.same("force(1)", -2, x.force(1));
        Scene.under(x, "loses 3");
        due.same("asks(0, 1, 1)", 3, x.asks(0, 1, 1));
        x.back(1);
        due.same("asks(0, 1, 1)", 2, x.asks(0, 1, 1));
    }

    static void promise37_othersInTheSamePlaceGo(Due due) {
        HandRing x = Scene.with(0, 4, 3);
        x.image(0);
        x.person(11, 1, 1);
        x.take(0, 1);
        x.image(1);
        x.back(0);
        x.person(22, 2, 2);
        x.back(1);
        due.same("of(1, 0)", 11, x.of(1, 0));
        due.same("of(1, 1)", 1, x.of(1, 1));
        due.same("of(1, 2)", 1, x.of(1, 2));
        due.same("of(1, 3)", 1, x.of(1, 3));
        x.back(0);
        x.person(22, 2, 2);
        due.same("of(0, 3)", 0, x.of(0, 3));
        due.same("of(1, 3)", 0, x.of(1, 3));
    }

    static void promise37_whatElseWasSeenInItsPlaceGoes(Due due) {
        HandRing x = Scene.crowd(4);
        x.image(0);
        x.seen(0, 1, 1);
        x.image(1);
        x.back(0);
        x.seen(2, 3, 0);
        due.same("fits(0)", 1, x.fits(0));
        x.back(1);
        due.same("fits(0)", 2, x.fits(0));
        due.same("fits(3)", 2, x.fits(3));
        x.seen(1, 2, 1);
        due.same("fits(0)", 1, x.fits(0));
        due.same("fits(3)", 2, x.fits(3));
        x.back(0);
        x.seen(0, 2, 1);
        x.back(1);
        x.seen(1, 3, 1);
        due.same("fits(2)", 1, x.fits(2));
        due.same("fits(3)", 3, x.fits(3));
    }

    static void promise37_termsAndSeenComeBack(Due due) {
        HandRing x = Scene.crowd(4);
        x.image(0);
        x.terms(0, 999);
        x.terms(1, 10);
        x.terms(2, 9);
        x.terms(3, 99);
        x.seen(0, 1, 1);
        x.image(1);
        x.back(0);
        int[] first = {0, 1, 0, 50};
        for (int t = 0; t < 4; t++) {
            due.same("count(" + (12 + t) + ")", first[t], x.count(12 + t));
        }
        due.same("fits(0)", 3, x.fits(0));
        x.back(1);
        due.same("count(12)", 999, x.count(12));
        due.same("fits(0)", 2, x.fits(0));
    }

    static void promise37_theTapeStays(Due due) {
        HandRing x = new HandRing();
        x.image(0);
        Due.put(x, "\5\4\3");
        x.back(0);
        due.same("count(5)", 3, x.count(5));
        due.same("row()", 1, x.row());
        due.same("of(0, 0)", 5, x.of(0, 0));
    }

    static void promise37_whatWasRefusedStays(Due due) {
        HandRing x = new HandRing();
        x.image(0);
        x.undo();
        x.person(25, 0, 0);
        x.back(0);
        due.same("count(6)", 1, x.count(6));
        due.same("count(8)", 1, x.count(8));
        due.same("status()", 0, x.status());
    }

    static void promise38_whatIsFrom0To15(Due due) {
        HandRing x = new HandRing();
        for (int what : new int[] {-1, 16, 17, LOW, HIGH}) {
            due.same("count(" + what + ")", NONE, x.count(what));
        }
        due.same("count(15)", 50, x.count(15));
    }

    static void promise38_eachFull(Due due) {
        HandRing x = Scene.ringOf(8);
        for (int i = 0; i < 6; i++) {
            Due.law(x, "bars");
            x.seen(0, 1, 1);
        }
        x.force(5);
        for (int i = 0; i < 17; i++) {
            x.pass();
        }
        for (int i = 0; i < 20; i++) {
            x.feed(0, 0, 0, 0, 0);
        }
        int[] want = {8, 0, 6, 6, 16, 400};
        for (int what = 0; what < want.length; what++) {
            due.same("count(" + what + ")", want[what], x.count(what));
        }
        due.same("count(11)", 5, x.count(11));
        due.same("count(12)", 17, x.count(12));
    }

    static void promise38_eightHoldsAtMost(Due due) {
        due.same("count(1)", 8, Scene.ringOf(8).count(1));
    }

    static void promise38_refusalsAreCountedEachByItsOwn(Due due) {
        HandRing x = new HandRing();
        refuse(x);
        int[] want = {5, 4, 3, 2, 1};
        for (int i = 0; i < want.length; i++) {
            due.same("count(" + (6 + i) + ")", want[i], x.count(6 + i));
        }
    }

    /** Five calls refused by -1, four by -2, three by -3, two by -5, one by -6. */
    private static void refuse(HandRing x) {
        x.terms(9, 0);
        x.take(0, 0);
        x.loose(0, 0);
        x.walk(0, 0);
        x.image(2);
        x.force(0);
        x.take(0, 1);
        x.loose(0, 1);
        x.back(0);
        x.undo();
        x.days(0, 1);
        x.undo();
        for (int i = 0; i < 8; i++) {
            x.person(0, 0, 0);
        }
        x.person(0, 0, 0);
        x.person(0, 0, 0);
        x.row();
    }

    static void promise38_imagesDoNotKeepRefusals(Due due) {
        HandRing x = new HandRing();
        x.image(0);
        refuse(x);
        x.back(0);
        // of the image that is kept here it is gone back to, so that one less is refused by -2
        int[] want = {5, 3, 3, 2, 1};
        for (int i = 0; i < want.length; i++) {
            due.same("count(" + (6 + i) + ")", want[i], x.count(6 + i));
        }
    }

    static void promise38_answersOfNoneAreNoRefusals(Due due) {
        HandRing x = new HandRing();
        x.of(0, 0);
        x.asks(0, 0, 0);
        x.end(1);
        x.end(-1);
        x.fault();
        x.stopped();
        x.lights(9);
        x.ring(0);
        x.narrow(0);
        x.gloves(0);
        x.kept(0);
        x.two(0);
        x.fits(1);
        x.ask(0);
        x.few(0, 0);
        x.compare(9);
        x.drawn(0, 0);
        x.count(99);
        for (int i = 0; i < 21; i++) {
            x.feed(0, 0, 0, 0, 0);
        }
        for (int what = 6; what <= 10; what++) {
            due.same("count(" + what + ")", 0, x.count(what));
        }
    }

    static void promise38_aSmallTapeAndUndoAreCountedDown(Due due) {
        HandRing x = Scene.ringOf(3);
        x.feed(0, 0, 0, 0, 0);
        x.end(1);
        due.same("count(5)", 1, x.count(5));
        x.undo();
        due.same("count(4)", 2, x.count(4));
        due.same("count(1)", 2, x.count(1));
    }

    static void promise39_0AheadOfAny(Due due) {
        due.same("status()", 0, new HandRing().status());
    }

    static void promise39_eachCallThatIsRefusedTellsIt(Due due) {
        HandRing x = Scene.crowd(2);
        x.person(25, 0, 0);
        due.same("person", -1, x.status());
        x.take(0, 5);
        due.same("take", -2, x.status());
        x.terms(4, 0);
        due.same("terms", -1, x.status());
        x.row();
        due.same("row", -6, x.status());
        x.undo();
        due.same("undo", -3, x.status());
        x.law();
        due.same("law", -6, x.status());
        x.force(0);
        due.same("force", -2, x.status());
        x.orders();
        due.same("orders", -6, x.status());
        x.loose(0, 1);
        due.same("loose", -3, x.status());
        x.walk(0, 0);
        due.same("walk", -1, x.status());
        x.back(0);
        due.same("back", -2, x.status());
        x.seen(0, 0, 0);
        due.same("seen", -1, x.status());
        x.walk(0, 3);
        due.same("walk", -3, x.status());
        x.image(2);
        due.same("image", -1, x.status());
        x.walk(5, 1);
        due.same("walk", -2, x.status());
        x.days(0, 0);
        due.same("days", -1, x.status());
        x.terms(0, 999);
        x.pass();
        due.same("pass", -3, x.status());
    }

    static void promise39_eachCallThatIsNotRefusedTells0(Due due) {
        String[] names = {"person", "terms", "row", "law", "orders", "force", "take", "loose", "walk", "pass", "undo",
            "seen", "days", "image", "back"};
        HandRing x = Scene.crowd(2);
        for (int i = 0; i < names.length; i++) {
            due.same("whether it is refused", -1, x.terms(9, 9));
            Due.put(x, i == 2 ? "\1\1\1" : i == 3 ? "bars if 1=2" : "pass");
            int answer = call(x, i);
            due.same("whether " + names[i] + " is granted", 1, answer >= NONE ? 1 : 0);
            due.same("status() behind " + names[i], 0, x.status());
        }
    }

    private static int call(HandRing x, int i) {
        switch (i) {
            case 0:
                return x.person(0, 4, 0);
            case 1:
                return x.terms(0, 1);
            case 2:
                return x.row();
            case 3:
                return x.law();
            case 4:
                return x.orders();
            case 5:
                return x.force(0);
            case 6:
                return x.take(0, 1);
            case 7:
                return x.loose(0, 1);
            case 8:
                return x.walk(0, 1);
            case 9:
                return x.pass();
            case 10:
                return x.undo();
            case 11:
                return x.seen(0, 1, 1);
            case 12:
                return x.days(0, 1);
            case 13:
                return x.image(0);
            default:
                return x.back(0);
        }
    }

    static void promise39_aForceThatAnswersNoneIsNotRefused(Due due) {
        HandRing x = new HandRing();
        Due.law(x, "bars");
        x.undo();
        due.same("force(0)", NONE, x.force(0));
        due.same("status()", 0, x.status());
    }

    static void promise39_otherCallsLeaveIt(Due due) {
        HandRing x = Scene.crowd(3);
        x.undo();
        x.of(0, 0);
        x.asks(0, 1, 0);
        x.feed(0, 0, 0, 0, 0);
        x.end(0);
        x.gaps();
        x.fault();
        x.stopped();
        x.lights(0);
        x.ring(0);
        x.rings();
        x.narrow(0);
        x.gloves(0);
        x.kept(0);
        x.two(0);
        x.stays();
        x.forget();
        x.fits(0);
        x.ask(0);
        x.few(1, 1);
        x.compare(NONE);
        x.drawn(0, 0);
        x.count(0);
        due.same("status()", -3, x.status());
        due.same("status() again", -3, x.status());
    }
}
