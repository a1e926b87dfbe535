/** "Terms", on nights, deeds, moves, trays and images: each sentence that names a boundary has a test of its own. */
public final class EdgeNightTest {
    /** 1,000,000 as a sum, one less, and both below 0. */
    private static final String MILLION = "999*999+999+999+1";
    private static final String LESS = "999*999+999+999";
    private static final String BELOW = "0-999*999-999-999-1";
    private static final String BELOW_MORE = "0-999*999-999-999";

    public static void main(String[] args) {
        unlessTheLawHolds();
        eachRoundInOrder();
        withoutBlindOnes();
        roundAndRound();
        goesBack();
        movedAndDay();
        dayAndMovedAtFirst();
        lawOfDay();
        lawOfWeek();
        lawOfMoved();
        lawOfPeople();
        lawOfWrong();
        eachPlusIsKept();
        eachLessIsKept();
        eachTimesIsKept();
        asIfNoneRested();
        addressFindsAll();
        nightsOfOneCall();
        eachCanBeUndone();
        latestFirst();
        tenAtMost();
        toldSigns();
        toldChanges();
        toldNights();
        noSuchNumber();
        noSuchStreetOrName();
        bothOne();
        belowZeroIsAgo();
        roundsAsTheyAreNow();
        cycleFrom1On();
        periodFrom1On();
        asNowMayBeSooner();
        whenOneToTen();
        whenZeroToo();
        homeOneToEight();
        homeOnMoves0To59();
        homeOneEach();
        homeTheLatestAsSoonAsCanBe();
        homeTheFirstLetterThen();
        writtenTTo99();
        rightOfAll();
        harmOfNamesAlone();
        servedOn0To99();
        errorsToPeriodLess1();
        errorsNotSeen();
        errorsTheFirst();
        inkOfNoneAndAll();
        changesFewest();
        monthOf1To30();
        monthOfAnySeed();
        monthOfTwoThatAreOne();
        traysMissingAtFirst();
        rowsOf0To30();
        numbersOf8Bits();
        numbersOf16Bits();
        numbersOf32Bits();
        numbersOf64Bits();
        imagesNoneAtFirst();
        imagesAllButTheTape();
        Check.end("EdgeNightTest");
    }

    private static void unlessTheLawHolds() {
        Check.says("A NIGHT: unless the law holds (it rests then)");
        MovingNames x = Check.town("streets 2;round: 0 1;rest day=1;");
        Check.due("the first", x.nights(1), 1);
        Check.dueNames("the first", x, 1, 0);
        Check.due("it rests", x.rests(), true);
        Check.due("the second", x.nights(1), 0);
        Check.dueNames("the second", x, 1, 0);
        Check.due("it rests no more", x.rests(), false);
        Check.due("the third", x.nights(1), 1);
        Check.dueNames("the third", x, 0, 1);
        MovingNames y = Check.town("streets 2;round: 0 1;rest 1=1;");
        Check.due("a law that always holds", y.nights(99), 0);
        Check.dueNames("a law that always holds", y, 0, 1);
        MovingNames z = Check.town("streets 2;round: 0 1;rest 1=2;");
        Check.due("a law that never does", z.nights(99), 99);
        Check.due("no law", Check.town("streets 2;round: 0 1;").nights(99), 99);
        MovingNames w = Check.town("streets 3;round: 0 1 2;rest day=0 or day=3;");
        Check.due("some of one call", w.nights(5), 3);
        Check.dueNames("some of one call", w, 0, 1, 2);
    }

    private static void eachRoundInOrder() {
        Check.says("each ROUND in order");
        MovingNames x = Check.town("streets 3;round: 0 1;round: 1 2;");
        Check.due("0 goes on twice", x.goesTo(0, 1), 2);
        Check.due("1", x.goesTo(1, 1), 0);
        Check.due("2", x.goesTo(2, 1), 1);
        MovingNames y = Check.town("streets 3;round: 1 2;round: 0 1;");
        Check.due("the other order: 0", y.goesTo(0, 1), 1);
        Check.due("the other order: 1", y.goesTo(1, 1), 2);
        Check.due("the other order: 2 goes on twice", y.goesTo(2, 1), 0);
        MovingNames z = Check.town("streets 5;round: 0 1;round: 1 2;round: 2 3;round: 3 4;");
        Check.due("by all four", z.goesTo(0, 1), 4);
        z.nights(1);
        Check.dueNames("by all four", z, 1, 2, 3, 4, 0);
    }

    private static void withoutBlindOnes() {
        Check.says("along its STREETS without blind ones");
        MovingNames x = Check.town(Check.ring(4) + "blind 0;");
        Check.due("the first is blind", x.goesTo(3, 1), 1);
        Check.due("it stays", x.goesTo(0, 1), 0);
        MovingNames y = Check.town(Check.ring(4) + "blind 3;");
        Check.due("the last is blind", y.goesTo(2, 1), 0);
        MovingNames z = Check.town("streets 5;round by 2: 0 1 2 3 4;blind 2;");
        Check.due("by 2 of the open ones: 0", z.goesTo(0, 1), 3);
        Check.due("by 2 of the open ones: 1", z.goesTo(1, 1), 4);
        Check.due("by 2 of the open ones: 3", z.goesTo(3, 1), 0);
        MovingNames w = Check.town(Check.ring(3) + "blind 0;blind 2;");
        Check.due("one open", w.goesTo(1, 1), 1);
        w.blind(1);
        Check.due("all blind", w.goesTo(1, 1), 1);
        Check.due("all blind: it moves", w.nights(3), 3);
        Check.dueNames("all blind", w, 0, 1, 2);
        MovingNames v = Check.town("streets 3;round: 0 1;round: 1 2;blind 1;");
        Check.due("blind in all rounds", v.period(), 1);
    }

    private static void roundAndRound() {
        Check.says("round and round, each SIGN goes on by so many");
        Check.due("by 4 of four", Check.town("streets 4;round by 4: 0 1 2 3;").goesTo(1, 1), 1);
        Check.due("by 5 of four", Check.town("streets 4;round by 5: 0 1 2 3;").goesTo(3, 1), 0);
        Check.due("by 9 of four", Check.town("streets 4;round by 9: 0 1 2 3;").goesTo(1, 1), 2);
        Check.due("by 9 of five", Check.town("streets 5;round by 9: 0 1 2 3 4;").goesTo(0, 1), 4);
        Check.due("by 9 of one", Check.town("streets 4;round by 9: 2;").goesTo(2, 1), 2);
        Check.due("by 9 of two", Check.town("streets 4;round by 9: 2 0;").goesTo(0, 1), 2);
        Check.due("by 9 of twenty", Check.town(Check.ring(20).replace(":", " by 9:")).goesTo(15, 1), 4);
        Check.due("by 9 of ten", Check.town("streets 20;round by 9: 0 1 2 3 4 5 6 7 8 9;").goesTo(0, 1), 9);
        Check.due("by 9 of nine", Check.town("streets 20;round by 9: 0 1 2 3 4 5 6 7 8;").goesTo(3, 1), 3);
    }

    private static void goesBack() {
        Check.says("(back: goes back)");
        Check.due("by 1", Check.town("streets 4;round back: 0 1 2 3;").goesTo(0, 1), 3);
        Check.due("by 1 from the last", Check.town("streets 4;round back: 0 1 2 3;").goesTo(3, 1), 2);
        Check.due("by 4 of four", Check.town("streets 4;round back by 4: 0 1 2 3;").goesTo(1, 1), 1);
        Check.due("by 5 of four", Check.town("streets 4;round back by 5: 0 1 2 3;").goesTo(0, 1), 3);
        Check.due("by 9 of four", Check.town("streets 4;round back by 9: 0 1 2 3;").goesTo(2, 1), 1);
        Check.due("by 9 of five", Check.town("streets 5;round back by 9: 0 1 2 3 4;").goesTo(0, 1), 1);
        Check.due("by 9 of one", Check.town("streets 4;round back by 9: 2;").goesTo(2, 1), 2);
        MovingNames x = Check.town("streets 4;round back by 2: 3 1 0;");
        x.nights(1);
        Check.dueNames("names", x, 1, 3, 2, 0);
    }

    private static void movedAndDay() {
        Check.says("it has MOVED 1 more then. DAY is 1 more in any case");
        MovingNames x = Check.town("streets 2;round: 0 1;rest day=1;");
        int[] moved = {1, 1, 2, 3};
        for (int n = 0; n < moved.length; n++) {
            x.nights(1);
            Check.due("DAY", x.count(5), n + 1);
            Check.due("MOVED", x.count(6), moved[n]);
        }
        MovingNames y = new MovingNames();
        y.nights(99);
        Check.due("no streets: DAY", y.count(5), 99);
        Check.due("no streets: MOVED", y.count(6), 99);
    }

    private static void dayAndMovedAtFirst() {
        Check.says("(DAY, MOVED: 0 at first.)");
        MovingNames x = Check.town(Check.SIX);
        Check.due("DAY", x.count(5), 0);
        Check.due("MOVED", x.count(6), 0);
        x.nights(7);
        Check.row(x, 0, -1, -1);
        Check.due("judged", x.judge(0, 2), 2);
        Check.tell(x, Check.SIX);
        Check.due("DAY of a later town", x.count(5), 0);
        Check.due("MOVED of a later town", x.count(6), 0);
        Check.due("no DEEDS of a later town", x.count(9), 0);
        x.nights(3);
        Check.tell(x, "streets 2;blind 7;");
        Check.due("DAY behind a FAULT", x.count(5), 3);
    }

    /** Whether it rests after so many nights. */
    private static void dueRests(String truth, int nights, boolean want) {
        MovingNames x = Check.town("streets 4;rest " + truth + ";");
        for (int left = nights; left > 0; left -= Math.min(left, 99)) x.nights(Math.min(left, 99));
        Check.due("rest " + truth + " after " + nights, x.rests(), want);
    }

    private static void lawOfDay() {
        Check.says("day: DAY");
        dueRests("day=0", 0, true);
        dueRests("day=0", 1, false);
        dueRests("day=99", 99, true);
        dueRests("day=999", 999, true);
        dueRests("day=999+1", 1000, true);
        dueRests("day=0", 1000, false);
        dueRests("day=3*999", 2997, true);
    }

    private static void lawOfWeek() {
        Check.says("week: DAY modulo 7");
        int[] week = {0, 1, 2, 3, 4, 5, 6, 0, 1, 2, 3, 4, 5, 6, 0, 1};
        for (int day = 0; day < week.length; day++) dueRests("week=" + week[day], day, true);
        dueRests("week=7", 7, false);
        dueRests("week=6", 999, false);
        dueRests("week=5", 999, true);
        dueRests("week=6", 1000, true);
    }

    private static void lawOfMoved() {
        Check.says("moved: MOVED modulo 1,000");
        dueRests("moved=0", 0, true);
        dueRests("moved=999", 999, true);
        dueRests("moved=0 and day>0", 999, false);
        dueRests("moved=0 and day>0", 1000, true);
        dueRests("moved=1 and day>1", 1001, true);
        dueRests("moved=999 and day>999", 1999, true);
        dueRests("moved=0 and day>999", 2000, true);
        MovingNames x = Check.town("streets 2;round: 0 1;rest moved=5;");
        Check.due("MOVED, not DAY", x.nights(9), 5);
    }

    private static void lawOfPeople() {
        Check.says("people: how many");
        Check.due("none", Check.town("streets 2;rest people=0;").rests(), true);
        Check.due("one", Check.town("streets 2;rest people=1;person 0 1;").rests(), true);
        StringBuilder text = new StringBuilder("streets 2;rest people=8;");
        for (int p = 0; p < 8; p++) text.append("person 1 3;");
        Check.due("eight", Check.town(text.toString()).rests(), true);
    }

    private static void lawOfWrong() {
        Check.says("wrong: how many STREETS bear a NAME that hangs on another one, too");
        Check.due("none", Check.town("streets 4;rest wrong=0;").rests(), true);
        Check.due("two of one", Check.town("streets 4;rest wrong=2;sign 0 3;").rests(), true);
        Check.due("three of one", Check.town("streets 4;rest wrong=3;sign 0 3;sign 1 3;").rests(), true);
        Check.due("two of two", Check.town("streets 4;rest wrong=4;sign 0 3;sign 1 2;").rests(), true);
        StringBuilder text = new StringBuilder("streets 20;rest wrong=20;");
        for (int s = 0; s < 19; s++) text.append("sign ").append(s).append(" 19;");
        Check.due("all", Check.town(text.toString()).rests(), true);
        MovingNames x = Check.town("streets 4;rest wrong>0;");
        x.hang(0, 3);
        Check.due("as it is now", x.rests(), true);
        Check.due("all nights rest", x.movesIn(999), 0);
        x.hang(3, 0);
        Check.due("no more", x.movesIn(999), 999);
    }

    private static void eachPlusIsKept() {
        Check.says("each + kept from -1,000,000 to 1,000,000");
        dueRests(LESS + "+1=" + MILLION, 0, true);
        dueRests(LESS + "<" + MILLION, 0, true);
        dueRests(MILLION + "-1=" + LESS, 0, true);
        dueRests(MILLION + "+1=" + MILLION, 0, true);
        dueRests(MILLION + "+1-1=" + LESS, 0, true);
        dueRests(MILLION + "+999=" + MILLION, 0, true);
        dueRests("(" + MILLION + ")+(" + MILLION + ")=" + MILLION, 0, true);
        dueRests("(" + BELOW + ")+(" + BELOW + ")=" + BELOW, 0, true);
        dueRests("(" + BELOW + ")+(0-1)+1=" + BELOW_MORE, 0, true);
        dueRests("(" + BELOW + ")+(" + MILLION + ")=0", 0, true);
    }

    private static void eachLessIsKept() {
        Check.says("each - kept from -1,000,000 to 1,000,000");
        dueRests(BELOW_MORE + "-1=" + BELOW, 0, true);
        dueRests(BELOW_MORE + ">" + BELOW, 0, true);
        dueRests(BELOW + "+1=" + BELOW_MORE, 0, true);
        dueRests(BELOW + "-1=" + BELOW, 0, true);
        dueRests(BELOW + "-1+1=" + BELOW_MORE, 0, true);
        dueRests(BELOW + "-999=" + BELOW, 0, true);
        dueRests("(" + MILLION + ")-(" + BELOW + ")=" + MILLION, 0, true);
        dueRests("(" + MILLION + ")-(0-1)-1=" + LESS, 0, true);
        dueRests("(" + BELOW + ")-(" + MILLION + ")=" + BELOW, 0, true);
        dueRests("0-1<0", 0, true);
    }

    private static void eachTimesIsKept() {
        Check.says("each * kept from -1,000,000 to 1,000,000");
        dueRests("500*500*4=" + MILLION, 0, true);
        dueRests("500*500*4-1=" + LESS, 0, true);
        dueRests("999*999*2=" + MILLION, 0, true);
        dueRests("999*999*999=" + MILLION, 0, true);
        dueRests("(" + MILLION + ")*(" + MILLION + ")=" + MILLION, 0, true);
        dueRests("(" + BELOW + ")*(" + BELOW + ")=" + MILLION, 0, true);
        dueRests("(" + MILLION + ")*(" + BELOW + ")=" + BELOW, 0, true);
        dueRests("(0-999)*999*2=" + BELOW, 0, true);
        dueRests("(0-999)*999*2+1=" + BELOW_MORE, 0, true);
        dueRests("(0-500)*500*4=" + BELOW, 0, true);
        dueRests("999*999*2-999*999=999+999+1", 0, true);
    }

    private static void asIfNoneRested() {
        Check.says("A MOVE is a NIGHT's going on, as if none rested");
        MovingNames x = Check.town("streets 3;round: 0 1 2;rest 1=1;person 0 1;");
        Check.due("nameIn", x.nameIn(0, 1), 2);
        Check.due("goesTo", x.goesTo(0, 1), 1);
        Check.due("period", x.period(), 3);
        Check.due("findsIn", x.findsIn(2, 1, 1), 1);
        Check.due("nights", x.nights(5), 0);
        Check.dueNames("nights", x, 0, 1, 2);
    }

    private static void addressFindsAll() {
        Check.says("it finds all PEOPLE who live in that HOUSE of a STREET where the NAME hangs");
        StringBuilder text = new StringBuilder("streets 3;sign 1 0;");
        for (int p = 0; p < 8; p++) text.append("person ").append(p % 2).append(" 3;");
        MovingNames x = Check.town(text.toString());
        Check.due("all of two streets", x.finds(0, 3), 255);
        Check.due("no such house", x.finds(0, 2), 0);
        Check.due("a name that hangs nowhere", x.finds(1, 3), 0);
        Check.due("a street without people", x.finds(2, 3), 0);
        x.hang(1, 2);
        Check.due("half of them", x.finds(0, 3), 85);
        Check.due("the others", x.finds(2, 3), 170);
    }

    private static void nightsOfOneCall() {
        Check.says("DEEDS: NIGHTS (those of one call together)");
        MovingNames x = Check.town(Check.ring(4));
        x.nights(99);
        Check.due("one deed", x.count(9), 1);
        x.nights(1);
        Check.due("two", x.count(9), 2);
        x.undo(1);
        Check.due("one night undone", x.count(5), 99);
        Check.dueNames("one night undone", x, 1, 2, 3, 0);
        x.undo(1);
        Check.due("99 undone", x.count(5), 0);
        Check.due("99 undone: MOVED", x.count(6), 0);
        Check.dueNames("99 undone", x, 0, 1, 2, 3);
        MovingNames y = Check.town(Check.ring(4) + "rest week>1;");
        y.nights(10);
        Check.due("some rest", y.count(6), 4);
        y.undo(1);
        Check.due("some rest: undone", y.count(6), 0);
        Check.dueNames("some rest: undone", y, 0, 1, 2, 3);
    }

    private static void dueUndone(String call, Check.Call deed) {
        MovingNames x = Check.town(Check.SIX + "blind 2;rest day=2;");
        x.hang(1, 1);
        String before = Check.seen(x);
        deed.on(x);
        Check.due(call + " is a deed", x.count(9), 2);
        Check.due(call + " undone", x.undo(1), 1);
        Check.dueText(call + " undone", Check.seen(x), before);
    }

    private static void eachCanBeUndone() {
        Check.says("each can be UNDONE");
        dueUndone("nights(1)", x -> x.nights(1));
        dueUndone("nights(4)", x -> x.nights(4));
        dueUndone("nights(99)", x -> x.nights(99));
        dueUndone("hang", x -> x.hang(0, 5));
        dueUndone("hang what hangs there", x -> x.hang(0, 0));
        dueUndone("change", x -> x.change(0, 5));
        dueUndone("letIn at first", x -> x.letIn(4, 0, 0));
        dueUndone("letIn within", x -> x.letIn(4, 0, 1));
        dueUndone("letIn at last", x -> x.letIn(4, 0, 3));
        dueUndone("takeOut the first", x -> x.takeOut(0, 0));
        dueUndone("takeOut within", x -> x.takeOut(1, 0));
        dueUndone("takeOut the last", x -> x.takeOut(5, 1));
        dueUndone("blind", x -> x.blind(0));
        dueUndone("blind no more", x -> x.blind(2));
        dueUndone("moves", x -> x.moves(2, 5, 5));
        dueUndone("moves to where it is", x -> x.moves(2, 0, 2));
        dueUndone("a night of a month", x -> x.month(0, 1));
        dueUndone("a sign of a month", x -> x.month(1, 1));
    }

    private static void latestFirst() {
        Check.says("(UNDONE,) the latest first");
        MovingNames x = Check.town("streets 4;round: 0 1;");
        x.hang(0, 2);
        x.takeOut(1, 0);
        x.nights(1);
        x.hang(0, 3);
        x.undo(1);
        Check.due("the last sign", x.street(0, 0), 2);
        Check.due("the round stays", x.round(0, 0), 1);
        x.undo(1);
        Check.due("the night", x.count(5), 0);
        x.undo(1);
        Check.due("the round", x.round(0, 11), 1);
        Check.due("the first sign stays", x.street(0, 0), 2);
        x.undo(1);
        Check.due("the first sign", x.street(0, 0), 0);
    }

    private static void tenAtMost() {
        Check.says("(DEEDS,) 10 at most (eldest are forgotten)");
        MovingNames x = Check.town("streets 20;");
        for (int n = 1; n <= 9; n++) x.hang(0, n);
        Check.due("nine", x.count(9), 9);
        x.hang(0, 10);
        Check.due("ten", x.count(9), 10);
        x.hang(0, 11);
        Check.due("still ten", x.count(9), 10);
        Check.due("undo(10)", x.undo(10), 0);
        Check.due("back by ten alone", x.street(0, 0), 1);
        Check.dueThrow("undo(1)", Check.ARGUMENT, () -> x.undo(1));
        MovingNames y = Check.town(Check.ring(3));
        for (int n = 0; n < 30; n++) y.nights(1);
        Check.due("undo(10) of 30", y.undo(10), 0);
        Check.due("the day", y.count(5), 20);
        Check.dueNames("the day", y, 1, 2, 0);
    }

    private static void toldSigns() {
        Check.says("TOLD DEEDS in a TRAY: 0 to 399: on STREET v modulo 20 hangs NAME v by 20");
        MovingNames x = Check.town("streets 20;");
        Check.row(x, 0, 0, 380, 19, 399);
        Check.due("perform", x.perform(0), 4);
        Check.due("380: the street 0", x.street(0, 0), 19);
        Check.due("19: the street 19, then 399", x.street(19, 0), 19);
        x.undo(1);
        Check.due("19: the street 19", x.street(19, 0), 0);
        x.undo(2);
        Check.due("0: the street 0", x.street(0, 0), 0);
        Check.row(x, 0, 27);
        x.perform(0);
        Check.due("27: the street 7", x.street(7, 0), 1);
    }

    private static void toldChanges() {
        Check.says("400 to 799: the SIGNS of STREETS (v - 400) modulo 20 and (v - 400) by 20 change places");
        MovingNames x = Check.town("streets 20;");
        Check.row(x, 0, 401);
        Check.due("401", x.perform(0), 1);
        Check.due("401: 0", x.street(0, 0), 1);
        Check.due("401: 1", x.street(1, 0), 0);
        Check.row(x, 0, 420, 798, 780);
        Check.due("420, 798, 780", x.perform(0), 3);
        Check.due("420: 1", x.street(1, 0), 1);
        Check.due("798: 18", x.street(18, 0), 19);
        Check.due("780: 0", x.street(0, 0), 18);
        Check.due("780: 19", x.street(19, 0), 0);
        Check.row(x, 0, 419);
        Check.due("419", x.perform(0), 1);
        Check.due("419: 0", x.street(0, 0), 0);
        Check.due("419: 19", x.street(19, 0), 18);
        Check.due("419: 1 stays", x.street(1, 0), 1);
    }

    private static void toldNights() {
        Check.says("NONE: a NIGHT");
        MovingNames x = Check.town(Check.ring(3) + "rest day=1;");
        x.tray(0, 0, 30);
        for (int k = 0; k < 30; k++) x.write(0, k, -1);
        Check.due("thirty", x.judge(0, 0), -1);
        Check.due("thirty moved", x.judge(0, 2), 29);
        x.tray(0, 0, 2);
        x.write(0, 0, 255);
        x.write(0, 1, -1);
        Check.due("perform", x.perform(0), 2);
        Check.due("two days", x.count(5), 2);
        Check.due("one moved", x.count(6), 1);
    }

    /** One TOLD DEED alone: why it can't be. */
    private static void dueTold(MovingNames x, long v, int why) {
        Check.row(x, 0, v);
        Check.due("judge " + v, x.judge(0, 1), why);
        Check.due("judge " + v + ": place", x.judge(0, 0), why == 0 ? -1 : 0);
    }

    private static void noSuchNumber() {
        Check.says("They can't be: 1 no such number");
        MovingNames x = Check.town("streets 20;");
        dueTold(x, -1, 0);
        dueTold(x, 0, 0);
        dueTold(x, 399, 0);
        dueTold(x, 401, 0);
        dueTold(x, 798, 0);
        dueTold(x, 800, 1);
        dueTold(x, 801, 1);
        dueTold(x, -2, 1);
        dueTold(x, Long.MAX_VALUE, 1);
        dueTold(x, Long.MIN_VALUE, 1);
        dueTold(x, 1L << 32, 1);
        dueTold(x, 0xffffffffL, 1);
    }

    private static void noSuchStreetOrName() {
        Check.says("They can't be: 1 no such STREET, NAME");
        MovingNames x = Check.town("streets 6;");
        dueTold(x, 5, 0);
        dueTold(x, 6, 1);
        dueTold(x, 19, 1);
        dueTold(x, 20, 0);
        dueTold(x, 100, 0);
        dueTold(x, 105, 0);
        dueTold(x, 106, 1);
        dueTold(x, 120, 1);
        dueTold(x, 399, 1);
        dueTold(x, 405, 0);
        dueTold(x, 406, 1);
        dueTold(x, 500, 0);
        dueTold(x, 520, 1);
        dueTold(x, 799, 1);
        MovingNames y = new MovingNames();
        dueTold(y, 0, 1);
        dueTold(y, 401, 1);
        dueTold(y, -1, 0);
    }

    private static void bothOne() {
        Check.says("They can't be: 2 both one");
        MovingNames x = Check.town("streets 6;");
        dueTold(x, 400, 2);
        dueTold(x, 421, 2);
        dueTold(x, 505, 2);
        dueTold(x, 526, 1);
        dueTold(x, 0, 0);
        dueTold(x, 21, 0);
        dueTold(Check.town("streets 20;"), 799, 2);
    }

    private static void belowZeroIsAgo() {
        Check.says("n MOVES ahead (below 0: ago)");
        MovingNames x = Check.town(Check.ring(20));
        Check.due("0", x.nameIn(7, 0), 7);
        Check.due("1", x.nameIn(7, 1), 6);
        Check.due("-1", x.nameIn(7, -1), 8);
        Check.due("8", x.nameIn(7, 8), 19);
        Check.due("-13", x.nameIn(7, -13), 0);
        Check.due("9999", x.nameIn(7, 9999), 8);
        Check.due("-9999", x.nameIn(7, -9999), 6);
        Check.due("goesTo 9999", x.goesTo(7, 9999), 6);
        Check.due("goesTo -9999", x.goesTo(7, -9999), 8);
        Check.due("goesTo -20", x.goesTo(7, -20), 7);
    }

    private static void roundsAsTheyAreNow() {
        Check.says("ROUNDS being as they are now");
        MovingNames x = Check.town(Check.ring(3));
        x.nights(2);
        x.takeOut(0, 0);
        Check.dueNames("now", x, 1, 2, 0);
        Check.due("ago: not as it was", x.nameIn(0, -2), 1);
        Check.due("ago: as the round is", x.nameIn(1, -1), 0);
        x.blind(1);
        Check.due("blind as now", x.nameIn(1, -1), 2);
        x.blind(1);
        x.letIn(0, 0, 0);
        x.hang(0, 0);
        Check.due("signs as now", x.nameIn(1, -1), 0);
        Check.due("signs as now, ahead", x.nameIn(1, 1), 0);
        MovingNames y = Check.town(Check.ring(3) + "person 2 1;");
        Check.row(y, 0, 2);
        dueAsked("the round as told", y, 6, 3, 2, 7, 1, 3);
        y.takeOut(1, 0);
        dueAsked("a street taken out", y, 5, 2, 1, 5, -1, 2);
        y.undo(1);
        dueAsked("undone", y, 6, 3, 2, 7, 1, 3);
        y.blind(0);
        dueAsked("a blind one", y, 6, 1, -1, 1, 1, 2);
        y.blind(0);
        y.takeOut(0, 0);
        y.letIn(0, 0, 1);
        dueAsked("a street let in", y, 5, 3, 1, 7, 2, 3);
    }

    /** A town of three streets, asked for what hangs by moves. */
    private static void dueAsked(String call, MovingNames x, int under, int again, int when, int visits, int served, int period) {
        Check.due(call + ": under", x.under(0, 1), under);
        Check.due(call + ": again", x.again(0), again);
        Check.due(call + ": when 0 hangs on 2", x.when(0), when);
        Check.due(call + ": home", x.home(0, 0), when);
        Check.due(call + ": visits", x.visits(0, 2), visits);
        Check.due(call + ": the first 1 is served", x.served(0, 1, 1), served);
        Check.due(call + ": period", x.period(), period);
    }

    private static void cycleFrom1On() {
        Check.says("CYCLE of a STREET: MOVES till a SIGN of it is there again, the fewest from 1 on");
        Check.due("no round", Check.town("streets 2;").street(1, 3), 1);
        Check.due("one of one", Check.town("streets 2;round: 1;").street(1, 3), 1);
        Check.due("twenty", Check.town(Check.ring(20)).street(0, 3), 20);
        Check.due("by 9 of twenty", Check.town(Check.ring(20).replace(":", " by 9:")).street(3, 3), 20);
        Check.due("by 8 of twenty", Check.town(Check.ring(20).replace(":", " by 8:")).street(3, 3), 5);
        Check.due("by 4 of four", Check.town("streets 4;round by 4: 0 1 2 3;").street(3, 3), 1);
        Check.due("back by 2 of four", Check.town("streets 4;round back by 2: 0 1 2 3;").street(3, 3), 2);
        MovingNames x = Check.town(Check.ring(4) + "sign 1 0;sign 2 0;sign 3 0;");
        Check.due("a sign, not a name", x.street(0, 3), 4);
        x.blind(2);
        Check.due("a blind one", x.street(2, 3), 1);
        Check.due("of the others", x.street(3, 3), 3);
    }

    private static void periodFrom1On() {
        Check.says("PERIOD: the fewest from 1 on till every SIGN is where it was, wherever it hung");
        Check.due("none", new MovingNames().period(), 1);
        Check.due("one street", Check.town("streets 1;").period(), 1);
        Check.due("twenty", Check.town(Check.ring(20)).period(), 20);
        Check.due("the most", Check.town("streets 20;round: 0 1 2 3 4;round: 5 6 7 8 9 10 11;"
            + "round: 12 13 14 15;round: 16 17 18;").period(), 420);
        Check.due("two and four", Check.town("streets 6;round: 0 1;round: 2 3 4 5;").period(), 4);
        Check.due("names alike", Check.town(Check.ring(3) + "sign 0 1;sign 2 1;").period(), 3);
        Check.due("the first alike", Check.town("streets 2;round: 0 1;sign 0 1;").period(), 2);
        Check.due("the second alike", Check.town("streets 2;round: 0 1;sign 1 0;").period(), 2);
        Check.due("to and fro", Check.town("streets 3;round: 0 1 2;round back: 0 1 2;").period(), 1);
        Check.due("by the whole round", Check.town("streets 3;round by 3: 0 1 2;").period(), 1);
    }

    private static void asNowMayBeSooner() {
        Check.says("AS NOW: till on each STREET the same NAME hangs (with SIGNS of one NAME this may be sooner)");
        Check.due("none", new MovingNames().asNow(), 1);
        Check.due("unlike names", Check.town(Check.ring(20)).asNow(), 20);
        Check.due("all alike", Check.town(Check.ring(3) + "sign 0 1;sign 2 1;").asNow(), 1);
        MovingNames x = Check.town(Check.ring(4) + "sign 2 0;sign 3 1;");
        Check.due("by turns", x.asNow(), 2);
        Check.due("by turns: the period", x.period(), 4);
        Check.due("two of four alike", Check.town(Check.ring(4) + "sign 1 0;").asNow(), 4);
        Check.due("420", Check.town("streets 20;round: 0 1 2 3 4;round: 5 6 7 8 9 10 11;"
            + "round: 12 13 14 15;round: 16 17 18;").asNow(), 420);
    }

    private static void whenOneToTen() {
        Check.says("WHEN by a TRAY (1 to 10 numbers, 20 times a NAME and a STREET)");
        MovingNames x = Check.town(Check.ring(20));
        Check.row(x, 0);
        Check.dueThrow("none", Check.ARGUMENT, () -> x.when(0));
        Check.row(x, 0, 20 * 0 + 19);
        Check.due("one", x.when(0), 19);
        Check.row(x, 0, 20 * 19 + 0);
        Check.due("380", x.when(0), 1);
        Check.row(x, 0, 399, 0, 21, 42, 63, 84, 105, 126, 147, 168);
        Check.due("ten", x.when(0), 0);
        Check.row(x, 0, 399, 0, 21, 42, 63, 84, 105, 126, 147, 169);
        Check.due("the tenth too", x.when(0), -1);
        Check.row(x, 0, 399, 0, 21, 42, 63, 84, 105, 126, 147, 168, 189);
        Check.dueThrow("eleven", Check.ARGUMENT, () -> x.when(0));
        long[] none = {-1, 400, Long.MIN_VALUE, Long.MAX_VALUE, 1L << 32};
        for (long v : none) {
            Check.row(x, 0, v, 0);
            Check.dueThrow("no such " + v, Check.ARGUMENT, () -> x.when(0));
        }
        MovingNames y = Check.town(Check.ring(6));
        long[] noStreet = {6, 19, 26, 106, 120, 399};
        for (long v : noStreet) {
            Check.row(y, 0, 0, v);
            Check.dueThrow("no such street or name " + v, Check.ARGUMENT, () -> y.when(0));
            Check.dueThrow("no such letter " + v, Check.ARGUMENT, () -> y.home(0, 0));
            Check.row(y, 0, v, 0);
            Check.dueThrow("no such first street or name " + v, Check.ARGUMENT, () -> y.when(0));
            Check.dueThrow("no such first letter " + v, Check.ARGUMENT, () -> y.home(0, 0));
        }
        Check.row(y, 0, 105);
        Check.due("the last name and street", y.when(0), 0);
    }

    private static void whenZeroToo() {
        Check.says("the fewest MOVES (0 too) till on each told STREET that NAME hangs");
        MovingNames x = Check.town(Check.TEN);
        Check.row(x, 0, 0, 21);
        Check.due("now", x.when(0), 0);
        Check.row(x, 0, 20 * 0 + 1);
        Check.due("by the next", x.when(0), 1);
        Check.row(x, 0, 20 * 0 + 1, 20 * 2 + 3, 20 * 5 + 6);
        Check.due("by 1 of each", x.when(0), 1);
        Check.row(x, 0, 20 * 1 + 0, 20 * 2 + 4, 20 * 5 + 9);
        Check.due("the last of the period", x.when(0), 29);
        Check.row(x, 0, 20 * 0 + 2);
        Check.due("never", x.when(0), -1);
        Check.row(x, 0, 20 * 0 + 0, 20 * 1 + 0);
        Check.due("two names at once", x.when(0), -1);
    }

    private static void dueHome(String call, MovingNames x, int latest, int... nights) {
        Check.due(call, x.home(0, 0), latest);
        for (int k = 0; k < nights.length; k++) Check.due(call + ": letter " + k, x.home(0, 10 + k), nights[k]);
    }

    private static void homeOneToEight() {
        Check.says("HOME by a TRAY (1 to 8 numbers, likewise)");
        MovingNames x = Check.town("streets 20;");
        Check.row(x, 0);
        Check.dueThrow("none", Check.ARGUMENT, () -> x.home(0, 0));
        Check.row(x, 0, 399);
        dueHome("one", x, 0, 0);
        Check.row(x, 0, 0, 21, 42, 63, 84, 105, 126, 399);
        dueHome("eight", x, 7, 0, 1, 2, 3, 4, 5, 6, 7);
        Check.row(x, 0, 0, 21, 42, 63, 84, 105, 126, 398);
        dueHome("the eighth never", x, -1, -1, -1, -1, -1, -1, -1, -1, -1);
        Check.row(x, 0, 0, 21, 42, 63, 84, 105, 126, 147, 168);
        Check.dueThrow("nine", Check.ARGUMENT, () -> x.home(0, 0));
        long[] none = {-1, 400, Long.MIN_VALUE, 1L << 40};
        for (long v : none) {
            Check.row(x, 0, 0, v);
            Check.dueThrow("no such " + v, Check.ARGUMENT, () -> x.home(0, 0));
        }
    }

    private static void homeOnMoves0To59() {
        Check.says("on each of the MOVES 0 to 59 ahead");
        MovingNames x = Check.town(Check.ring(20));
        Check.row(x, 0, 0);
        dueHome("on 0", x, 0, 0);
        Check.row(x, 0, 19, 19, 19);
        dueHome("on 59", x, 59, 19, 39, 59);
        Check.row(x, 0, 19, 19, 19, 19);
        dueHome("not on 79", x, -1, -1, -1, -1, -1);
        MovingNames y = Check.town(Check.ring(10));
        Check.row(y, 0, 0, 0, 0, 0, 0, 0);
        dueHome("on 0 to 50", y, 50, 0, 10, 20, 30, 40, 50);
        Check.row(y, 0, 0, 0, 0, 0, 0, 0, 0);
        dueHome("not on 60", y, -1);
    }

    private static void homeOneEach() {
        Check.says("on each of the MOVES one may be brought");
        MovingNames x = Check.town("streets 3;");
        Check.row(x, 0, 0, 0);
        dueHome("two of one", x, 1, 0, 1);
        Check.row(x, 0, 0, 21);
        dueHome("two of two", x, 1, 0, 1);
        MovingNames y = Check.town(Check.ring(20));
        Check.row(y, 0, 0, 21, 42);
        dueHome("three that hang there on the same ones", y, 40, 0, 20, 40);
        Check.row(y, 0, 0, 21, 42, 63);
        dueHome("a fourth can't be", y, -1, -1, -1, -1, -1);
        Check.row(y, 0, 0, 1, 2, 3, 4, 5, 6, 7);
        dueHome("one behind the other", y, 7, 0, 1, 2, 3, 4, 5, 6, 7);
        Check.row(y, 0, 7, 6, 5, 4, 3, 2, 1, 0);
        dueHome("the other way", y, 7, 7, 6, 5, 4, 3, 2, 1, 0);
    }

    private static void homeTheLatestAsSoonAsCanBe() {
        Check.says("so that the latest is as soon as can be");
        MovingNames x = Check.town("streets 3;round: 0 1;");
        // on street 2 the 2 hangs always; 0 hangs on 0 on the even ones
        Check.row(x, 0, 20 * 2 + 2, 0);
        dueHome("the first waits", x, 1, 1, 0);
        Check.row(x, 0, 20 * 2 + 2, 0, 0);
        dueHome("the first between", x, 2, 1, 0, 2);
        Check.row(x, 0, 20 * 2 + 2, 20 * 2 + 2, 0, 0);
        dueHome("the first two wait", x, 3, 1, 3, 0, 2);
    }

    private static void homeTheFirstLetterThen() {
        Check.says("of like ones the first letter as soon as can be, then the second, and so on");
        MovingNames x = Check.town("streets 3;round: 0 1;");
        Check.row(x, 0, 0, 0, 20 * 2 + 2);
        dueHome("the first two have few", x, 2, 0, 2, 1);
        Check.row(x, 0, 20 * 2 + 2, 20 * 2 + 2, 1);
        dueHome("the first of two alike", x, 2, 0, 2, 1);
        Check.row(x, 0, 20 * 2 + 2, 1, 20 * 2 + 2);
        dueHome("the last of two alike", x, 2, 0, 1, 2);
        Check.row(x, 0, 1, 20 * 2 + 2, 20 * 2 + 2);
        dueHome("the first later", x, 2, 1, 0, 2);
        MovingNames y = Check.town("streets 7;round: 0 1 2;round: 3 4 5;sign 2 0;");
        // to street 6 on any, to street 3 on 0, to street 0 on 0 and 1
        Check.row(y, 0, 20 * 6 + 6, 20 * 3 + 3, 0);
        dueHome("those that have few need them", y, 2, 2, 0, 1);
        Check.row(y, 0, 20 * 6 + 6, 0, 20 * 3 + 3);
        dueHome("those that have few, the other way", y, 2, 2, 1, 0);
        Check.row(y, 0, 20 * 6 + 6, 0, 20 * 6 + 6, 0);
        dueHome("each as soon as those behind allow", y, 3, 0, 1, 2, 3);
        Check.row(y, 0, 20 * 6 + 6, 20 * 6 + 6, 20 * 3 + 3, 20 * 3 + 3);
        dueHome("none of 0 and 3 is left", y, 3, 1, 2, 0, 3);
    }

    private static void writtenTTo99() {
        Check.says("WRITTEN: t MOVES (0 to 99) or more: on how many of the MOVES t to 99 ago");
        MovingNames x = Check.town(Check.ring(20));
        Check.due("now too", x.written(0, 0, 0), 5);
        Check.due("t is 1", x.written(0, 0, 1), 4);
        Check.due("t is 20", x.written(0, 0, 20), 4);
        Check.due("t is 21", x.written(0, 0, 21), 3);
        Check.due("t is 80", x.written(0, 0, 80), 1);
        Check.due("not 100 ago", x.written(0, 0, 81), 0);
        Check.due("99 ago", x.written(0, 1, 99), 1);
        Check.due("19 to 99 ago", x.written(0, 1, 0), 5);
        Check.due("98 ago alone", x.written(0, 2, 98), 1);
        Check.due("98 ago no more", x.written(0, 2, 99), 0);
        Check.dueThrow("t is -1", Check.ARGUMENT, () -> x.written(0, 0, -1));
        Check.dueThrow("t is 100", Check.ARGUMENT, () -> x.written(0, 0, 100));
        Check.due("all of them", Check.town("streets 2;").written(1, 1, 0), 100);
        Check.due("none of them", Check.town("streets 2;").written(1, 0, 0), 0);
    }

    private static void rightOfAll() {
        Check.says("RIGHT is a map for so many STREETS as bear the same NAME as now");
        MovingNames x = Check.town(Check.ring(4) + "sign 2 0;sign 3 1;");
        Check.due("now", x.right(0), 4);
        Check.due("1", x.right(1), 0);
        Check.due("2: other signs of the same names", x.right(2), 4);
        Check.due("-2", x.right(-2), 4);
        Check.due("no streets", new MovingNames().right(1), 0);
        Check.due("no rounds", Check.town("streets 20;").right(9999), 20);
    }

    private static void harmOfNamesAlone() {
        Check.says("HARM: for each NAME that hangs on one STREET alone then and now, how far these two are from one another");
        MovingNames x = Check.town(Check.ring(4));
        Check.due("now", x.harm(0), 0);
        Check.due("1", x.harm(1), 6);
        Check.due("2", x.harm(2), 8);
        Check.due("4", x.harm(4), 0);
        x.hang(1, 0);
        Check.due("0 hangs twice", x.harm(1), 4);
        x.hang(3, 2);
        Check.due("all hang twice", x.harm(1), 0);
        Check.due("the first to the last", Check.town("streets 20;round: 0 19;").harm(1), 38);
    }

    private static void servedOn0To99() {
        Check.says("SERVED: on how many of the MOVES 0 to 99 ahead a PERSON's STREET bears a NAME; the first of these");
        MovingNames x = Check.town(Check.ring(20) + "person 0 1;");
        Check.due("0, not 100", x.served(0, 0, 0), 5);
        Check.due("the first is 0", x.served(0, 0, 1), 0);
        Check.due("19 to 99", x.served(0, 1, 0), 5);
        Check.due("the first is 19", x.served(0, 1, 1), 19);
        MovingNames y = Check.town(Check.ring(9) + "person 0 1;");
        Check.due("0, 9 to 99", y.served(0, 0, 0), 12);
        Check.due("1 to 91", y.served(0, 8, 0), 11);
        Check.due("all", Check.town("streets 2;person 1 1;").served(0, 1, 0), 100);
        Check.due("none", Check.town("streets 2;person 1 1;").served(0, 0, 0), 0);
        Check.due("none: no first", Check.town("streets 2;person 1 1;").served(0, 0, 1), -1);
    }

    private static void dueErrors(String call, MovingNames x, int many, int moves, int streets) {
        Check.due(call + ": how many", x.errors(0, 0), many);
        Check.due(call + ": MOVES", x.errors(0, 1), moves);
        Check.due(call + ": STREETS", x.errors(0, 2), streets);
    }

    private static void errorsToPeriodLess1() {
        Check.says("ERRORS: of MOVES 0 to PERIOD less 1 ahead");
        MovingNames x = Check.town(Check.ring(5));
        Check.row(x, 0, 0, 1, 2, 3, 4);
        dueErrors("0", x, 0, 0, 0);
        Check.row(x, 0, 4, 0, 1, 2, 3);
        dueErrors("1", x, 0, 1, 0);
        Check.row(x, 0, 1, 2, 3, 4, 0);
        dueErrors("the last", x, 0, 4, 0);
        MovingNames y = Check.town("streets 3;");
        Check.row(y, 0, 1, 2, 0);
        dueErrors("a period of 1", y, 3, 0, 7);
        MovingNames z = Check.town(Check.TEN);
        Check.row(z, 0, 1, 0, 3, 4, 2, 6, 7, 8, 9, 5);
        dueErrors("29", z, 0, 29, 0);
    }

    private static void errorsNotSeen() {
        Check.says("(the NAME seen on each, NONE: not seen)");
        MovingNames x = Check.town(Check.ring(3));
        Check.row(x, 0, -1, -1, -1);
        dueErrors("none seen", x, 0, 0, 0);
        Check.row(x, 0, -1, -1, 0);
        dueErrors("one seen", x, 0, 2, 0);
        Check.row(x, 0, -1, 0, 0);
        dueErrors("two seen", x, 1, 1, 4);
        Check.row(x, 0, -2, 0, 0);
        Check.dueThrow("-2", Check.ARGUMENT, () -> x.errors(0, 0));
        Check.row(x, 0, 0, 0, 3);
        Check.dueThrow("3 of three", Check.ARGUMENT, () -> x.errors(0, 0));
    }

    private static void errorsTheFirst() {
        Check.says("that by which the fewest seen ones are otherwise, the first; those STREETS");
        MovingNames x = Check.town(Check.ring(3));
        Check.row(x, 0, 0, 0, 0);
        dueErrors("all of them like", x, 2, 0, 6);
        Check.row(x, 0, 1, 2, 1);
        dueErrors("the fewest", x, 1, 2, 4);
        Check.row(x, 0, 1, 1, 2);
        dueErrors("the fewest at once", x, 1, 0, 1);
        MovingNames y = Check.town(Check.ring(3) + "sign 0 1;sign 2 1;");
        Check.row(y, 0, 0, 0, 0);
        dueErrors("a name that hangs nowhere", y, 3, 0, 7);
    }

    private static void inkOfNoneAndAll() {
        Check.says("INK: on how many STREETS another NAME hangs");
        MovingNames x = Check.town("streets 3;");
        Check.row(x, 0, 0, 1, 2);
        Check.due("none", x.ink(0), 0);
        Check.row(x, 0, 1, 1, 2);
        Check.due("the first", x.ink(0), 1);
        Check.row(x, 0, 0, 1, 0);
        Check.due("the last", x.ink(0), 1);
        Check.row(x, 0, 2, 2, 0);
        Check.due("all", x.ink(0), 3);
    }

    private static void changesFewest() {
        Check.says("CHANGES: the fewest changes of two SIGNS by which it is so");
        MovingNames x = Check.town("streets 20;");
        long[] same = new long[20];
        long[] turned = new long[20];
        for (int s = 0; s < 20; s++) {
            same[s] = s;
            turned[s] = (s + 1) % 20;
        }
        Check.row(x, 0, same);
        Check.due("none", x.changes(0), 0);
        Check.row(x, 0, turned);
        Check.due("one ring of twenty", x.changes(0), 19);
        MovingNames y = Check.town("streets 4;");
        Check.row(y, 0, 1, 0, 3, 2);
        Check.due("two of two", y.changes(0), 2);
        Check.row(y, 0, 1, 2, 0, 3);
        Check.due("one of three", y.changes(0), 2);
        Check.row(y, 0, 3, 1, 2, 0);
        Check.due("the first and last", y.changes(0), 1);
        MovingNames z = Check.town("streets 1;");
        Check.row(z, 0, 0);
        Check.due("one street", z.changes(0), 0);
    }

    private static void dueMonth(String town, int seed, int times, int done, int day, int... names) {
        MovingNames x = Check.town(town);
        Check.due("month(" + seed + ", " + times + ")", x.month(seed, times), done);
        Check.due("its DAY", x.count(5), day);
        Check.dueNames("its names", x, names);
    }

    private static void monthOf1To30() {
        Check.says("A MONTH by a SEED: so many times (1 to 30)");
        String five = Check.ring(5);
        dueMonth(five, 0, 1, 1, 1, 4, 0, 1, 2, 3);
        dueMonth(five, 1, 1, 1, 0, 0, 3, 2, 3, 4);
        dueMonth(five, 3, 1, 1, 0, 2, 1, 0, 3, 4);
        dueMonth(five, 0, 30, 29, 19, 0, 2, 0, 4, 0);
        dueMonth(five, 1, 30, 30, 15, 2, 2, 3, 3, 4);
        MovingNames x = Check.town(five);
        Check.dueThrow("0 times", Check.ARGUMENT, () -> x.month(1, 0));
        Check.dueThrow("31 times", Check.ARGUMENT, () -> x.month(1, 31));
        Check.dueThrow("-1 times", Check.ARGUMENT, () -> x.month(1, -1));
    }

    private static void monthOfAnySeed() {
        Check.says("a SEED (x, an int; a DRAW: x becomes 1103515245 x + 12345, it is x >>> 16)");
        String five = Check.ring(5);
        dueMonth(five, -1, 30, 27, 16, 1, 4, 3, 2, 4);
        dueMonth(five, Integer.MAX_VALUE, 30, 28, 16, 2, 2, 1, 1, 1);
        dueMonth(five, Integer.MIN_VALUE, 30, 29, 19, 4, 2, 3, 1, 2);
        dueMonth(five, -7654321, 30, 28, 14, 2, 1, 0, 0, 0);
        dueMonth(five, 77, 30, 28, 14, 0, 0, 1, 0, 3);
    }

    private static void monthOfTwoThatAreOne() {
        Check.says("3 the SIGNS of STREETS DRAW modulo STREETS, DRAW modulo STREETS change places, if these are two");
        dueMonth(Check.ring(1), 3, 1, 0, 0, 0);
        dueMonth(Check.ring(1), 0, 30, 23, 19, 0);
        dueMonth(Check.ring(1), 9, 30, 21, 14, 0);
        MovingNames x = Check.town(Check.ring(1));
        x.month(3, 1);
        Check.due("no deed then", x.count(9), 0);
        Check.dueThrow("no deed to undo", Check.ARGUMENT, () -> x.undo(1));
        MovingNames y = Check.town("streets 20;");
        Check.due("month(102, 1)", y.month(102, 1), 0);
        Check.due("month(135, 1)", y.month(135, 1), 1);
        Check.due("the last street", y.street(19, 0), 2);
        Check.due("the other", y.street(2, 0), 19);
    }

    private static void traysMissingAtFirst() {
        Check.says("TRAYS 0 to 3 are MISSING at first");
        MovingNames x = Check.town(Check.SIX);
        for (int tray = 0; tray < 4; tray++) {
            int t = tray;
            Check.dueThrow("copy(" + t + ")", Check.STATE, () -> x.copy(t));
            Check.dueThrow("write(" + t + ")", Check.STATE, () -> x.write(t, 0, 0));
        }
        Check.dueThrow("copy(4)", Check.NO_SUCH, () -> x.copy(4));
        Check.dueThrow("copy(-1)", Check.NO_SUCH, () -> x.copy(-1));
        Check.dueThrow("tray(4, 0, 0)", Check.NO_SUCH, () -> x.tray(4, 0, 0));
        x.tray(3, 0, 0);
        Check.due("made", x.copy(3), 0);
        Check.dueThrow("the others stay", Check.STATE, () -> x.copy(2));
    }

    private static void rowsOf0To30() {
        Check.says("rows of 0 to 30 numbers");
        MovingNames x = Check.town("streets 1;");
        x.tray(0, 3, 0);
        Check.due("none told", x.judge(0, 0), -1);
        Check.dueThrow("none: no place", Check.INDEX, () -> x.write(0, 0, 1));
        x.tray(0, 3, 30);
        Check.due("thirty: the last", x.write(0, 29, 7), 7);
        Check.dueThrow("thirty: no more", Check.INDEX, () -> x.write(0, 30, 1));
        Check.due("thirty told", x.judge(0, 0), 29);
        Check.dueThrow("31", Check.ARGUMENT, () -> x.tray(0, 3, 31));
        Check.dueThrow("-1", Check.ARGUMENT, () -> x.tray(0, 3, -1));
    }

    private static void dueCut(int sort, long v, long want) {
        MovingNames x = new MovingNames();
        x.tray(1, sort, 1);
        Check.due("sort " + sort + ": " + v, x.write(1, 0, v), want);
    }

    private static void numbersOf8Bits() {
        Check.says("numbers of 8 bits (sort 0)");
        dueCut(0, 127, 127);
        dueCut(0, 128, -128);
        dueCut(0, 255, -1);
        dueCut(0, 256, 0);
        dueCut(0, -128, -128);
        dueCut(0, -129, 127);
        dueCut(0, Long.MAX_VALUE, -1);
        dueCut(0, Long.MIN_VALUE, 0);
    }

    private static void numbersOf16Bits() {
        Check.says("16 (1)");
        dueCut(1, 32767, 32767);
        dueCut(1, 32768, -32768);
        dueCut(1, 65535, -1);
        dueCut(1, 65536, 0);
        dueCut(1, -32768, -32768);
        dueCut(1, -32769, 32767);
        dueCut(1, Long.MAX_VALUE, -1);
    }

    private static void numbersOf32Bits() {
        Check.says("32 (2)");
        dueCut(2, 2147483647L, 2147483647L);
        dueCut(2, 2147483648L, -2147483648L);
        dueCut(2, 4294967295L, -1);
        dueCut(2, 4294967296L, 0);
        dueCut(2, -2147483648L, -2147483648L);
        dueCut(2, -2147483649L, 2147483647L);
        dueCut(2, Long.MAX_VALUE, -1);
    }

    private static void numbersOf64Bits() {
        Check.says("64 (3)");
        dueCut(3, Long.MAX_VALUE, Long.MAX_VALUE);
        dueCut(3, Long.MIN_VALUE, Long.MIN_VALUE);
        dueCut(3, 4294967296L, 4294967296L);
        dueCut(3, -1, -1);
    }

    private static void imagesNoneAtFirst() {
        Check.says("IMAGES 0 to 2 (none at first)");
        MovingNames x = Check.town(Check.SIX);
        for (int image = 0; image < 3; image++) {
            int i = image;
            Check.dueThrow("restore(" + i + ")", Check.STATE, () -> x.restore(i));
        }
        Check.dueThrow("restore(3)", Check.NO_SUCH, () -> x.restore(3));
        Check.dueThrow("restore(-1)", Check.NO_SUCH, () -> x.restore(-1));
        Check.dueThrow("image(3)", Check.NO_SUCH, () -> x.image(3));
        Check.dueThrow("image(-1)", Check.NO_SUCH, () -> x.image(-1));
        x.image(2);
        Check.dueThrow("the others stay", Check.STATE, () -> x.restore(1));
        x.hang(0, 3);
        x.restore(2);
        Check.due("the last image", x.street(0, 0), 0);
    }

    private static void imagesAllButTheTape() {
        Check.says("IMAGES: all but the tape, the FAULT and TRAYS, as it was");
        MovingNames x = Check.town(Check.SIX + "blind 2;rest day=2;");
        x.nights(1);
        x.hang(3, 0);
        x.tray(0, 3, 6);
        x.copy(0);
        x.image(0);
        String before = Check.seen(x);
        x.restore(0);
        Check.dueText("at once", Check.seen(x), before);
        x.undo(1);
        x.nights(5);
        x.letIn(3, 0, 1);
        x.takeOut(5, 1);
        x.blind(2);
        x.moves(0, 5, 5);
        x.restore(0);
        Check.dueText("after deeds", Check.seen(x), before);
        Check.tell(x, "streets 2;round back by 3: 1 0;houses 3;person 1 2;rest 1=1;");
        x.write(0, 0, 5);
        x.restore(0);
        Check.dueText("after another town", Check.seen(x), before);
        Check.due("the TRAY stays", x.ink(0), 1);
        Check.due("undo", x.undo(2), 0);
        Check.due("undone: the day", x.count(5), 0);
        Check.dueNames("undone", x, 0, 1, 2, 3, 4, 5);
        Check.tell(x, "streets 2;blind 2;");
        Check.feed(x, "streets 3;");
        x.restore(0);
        Check.due("the FAULT stays", x.fault(0), 3);
        Check.due("its place stays", x.fault(1), 16);
        Check.due("the tape stays", x.count(10), 20);
        Check.due("it can be told", x.town(10), 1);
    }
}
