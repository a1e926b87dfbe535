/** Promises 1 to 25: what is just allowed, empty, full or once round; what is refused is in EdgeThrowTest. */
public final class EdgeCallTest {
    public static void main(String[] args) {
        aNewObject();
        feedTwentyBytes();
        feedHighestFirst();
        feedUpTo900();
        townOfTheFirstBytes();
        townEmptiesTheTape();
        townHasNoDeeds();
        townTellsTheFault();
        townWithAFaultLeavesAllElse();
        faultOfTheLatest();
        faultWithout();
        faultOfOthers();
        streetOfEachWhat();
        streetPeople();
        roundOfEachWhat();
        roundPlaces();
        personOfEachWhat();
        whereAsBits();
        findsHouses();
        nameInFarAhead();
        goesToFarAhead();
        nightsOneTo99();
        restsTheComingNight();
        movesInZeroTo999();
        nightsForZeroTo999();
        nightsForNotInThese();
        hangWhatHungThere();
        changeTellsHowManyAreWrong();
        letInAtEachPlace();
        letInUpToAllStreets();
        takeOutTheLast();
        blindOrNoMore();
        movesToEachHouse();
        undoOneToTen();
        undoAsManyAsThereAre();
        judgeAsIfDone();
        judgeOfNone();
        performTillOneCantBe();
        performEachADeed();
        monthEachADeed();
        Check.end("EdgeCallTest");
    }

    private static void aNewObject() {
        Check.says("1: No STREETS; TRAYS are MISSING; an empty tape");
        MovingNames x = new MovingNames();
        Check.due("streets", x.count(1), 0);
        Check.dueThrow("street(0, 0)", Check.NO_SUCH, () -> x.street(0, 0));
        for (int tray = 0; tray < 4; tray++) {
            int t = tray;
            Check.dueThrow("tray " + t, Check.STATE, () -> x.perform(t));
        }
        Check.due("the tape", x.count(10), 0);
        Check.dueThrow("town(1)", Check.ARGUMENT, () -> x.town(1));
        Check.due("feed", x.feed(0, 0, 0, 0, 0), 20);
        Check.due("its houses", x.count(4), 9);
        Check.due("its day", x.count(5), 0);
        Check.due("its deeds", x.count(9), 0);
        MovingNames y = new MovingNames();
        Check.due("another object has its own", y.count(10), 0);
    }

    private static void feedTwentyBytes() {
        Check.says("2: Twenty bytes come behind those on the tape: how many it has");
        MovingNames x = new MovingNames();
        Check.due("the first", x.feed(0x20202020, 0x20202020, 0x20202020, 0x20202020, 0x20202020), 20);
        Check.due("the second", x.feed(0x20202073, 0x74726565, 0x74732037, 0x3b626c69, 0x6e642030), 40);
        Check.due("the third", x.feed(0x3b626c69, 0x6e642036, 0x3b202020, 0x20202020, 0x20202020), 60);
        Check.due("the tape", x.count(10), 60);
        Check.due("one behind the other", x.town(60), 3);
        Check.due("the first blind one", x.street(0, 1), 1);
        Check.due("the last blind one", x.street(6, 1), 1);
    }

    private static void feedHighestFirst() {
        Check.says("2: the highest of each int first");
        MovingNames x = new MovingNames();
        // "streets 6;" with the first byte of each int set apart by what would be a FAULT in another order
        x.feed(0x73747265, 0x65747320, 0x363b2020, 0x20202020, 0x20202041);
        Check.due("town(19)", x.town(19), 1);
        x.feed(0x73747265, 0x65747320, 0x363b2020, 0x20202020, 0x20202041);
        Check.due("town(20)", x.town(20), -11);
        Check.due("the last byte", x.fault(1), 19);
        x.feed(0x73747265, 0x65747320, 0x363b2020, 0x20202020, 0xff202020);
        Check.due("a byte of 255", x.town(20), -11);
        Check.due("where it is", x.fault(1), 16);
        x.feed(0x73747265, 0x65747320, 0x363b2020, 0x20202020, 0x20208020);
        Check.due("a byte of 128", x.town(20), -11);
        Check.due("where that is", x.fault(1), 18);
    }

    private static void feedUpTo900() {
        Check.says("2: NONE, and nothing changes, if there would be more than 900");
        MovingNames x = new MovingNames();
        x.feed(0x73747265, 0x65747320, 0x363b2020, 0x20202020, 0x20202020);
        for (int i = 2; i < 45; i++) x.feed(0x20202020, 0x20202020, 0x20202020, 0x20202020, 0x20202020);
        Check.due("880", x.count(10), 880);
        Check.due("900", x.feed(0x20202020, 0x20202020, 0x20202020, 0x20202020, 0x2020203b), 900);
        Check.due("920", x.feed(0x3b3b3b3b, 0, 0, 0, 0), -1);
        Check.due("920 again", x.feed(0x3b3b3b3b, 0, 0, 0, 0), -1);
        Check.due("still 900", x.count(10), 900);
        Check.due("town(900)", x.town(900), -12);
        Check.due("its last byte", x.fault(1), 899);
        Check.due("behind town()", x.feed(0, 0, 0, 0, 0), 20);
    }

    private static void townOfTheFirstBytes() {
        Check.says("3: The first n bytes of the tape are THE TOWN");
        MovingNames x = new MovingNames();
        Check.feed(x, "streets 5;blind 0;blind 1;");
        Check.due("all but the last line", x.town(18), 2);
        Check.due("lines", x.count(0), 2);
        Check.due("the last line is not told", x.street(1, 1), 0);
        Check.feed(x, "streets 5;blind 0;blind 1;");
        Check.due("as many as it has", x.town(40), 3);
        Check.feed(x, "streets 5;");
        Check.due("no byte", x.town(0), -12);
        Check.due("the end of none", x.fault(1), 0);
        Check.due("no byte of an empty tape", x.town(0), -12);
    }

    private static void townEmptiesTheTape() {
        Check.says("3: (which is empty then)");
        MovingNames x = new MovingNames();
        Check.feed(x, "streets 5;           streets 2;");
        x.town(10);
        Check.due("the rest is gone", x.count(10), 0);
        Check.dueThrow("town(1)", Check.ARGUMENT, () -> x.town(1));
        Check.feed(x, "streets 3;");
        Check.due("from the first byte on", x.town(10), 1);
        Check.due("three", x.count(1), 3);
        Check.feed(x, "streets 0;           streets 2;");
        Check.due("a FAULT", x.town(10), -13);
        Check.due("the rest is gone, too", x.count(10), 0);
    }

    private static void townHasNoDeeds() {
        Check.says("3: no DEEDS");
        MovingNames x = Check.town(Check.SIX);
        x.nights(2);
        x.hang(0, 3);
        Check.row(x, 0, -1, 3, -1);
        x.judge(0, 3);
        Check.tell(x, Check.SIX);
        Check.due("deeds", x.count(9), 0);
        Check.dueThrow("undo(1)", Check.ARGUMENT, () -> x.undo(1));
        Check.due("day", x.count(5), 0);
        Check.due("moved", x.count(6), 0);
        Check.dueNames("signs", x, 0, 1, 2, 3, 4, 5);
        x.blind(3);
        Check.tell(x, Check.SIX + "rest 1=1;blind 5;");
        Check.due("a law", x.rests(), true);
        Check.tell(x, "streets 6;");
        int[] counts = {1, 6, 0, 0, 9, 0, 0, 0, 0, 0, 0};
        for (int what = 0; what < counts.length; what++) Check.due("count(" + what + ")", x.count(what), counts[what]);
        Check.due("no law", x.rests(), false);
        Check.due("no people: found", x.finds(0, 1), 0);
        Check.due("no people: on a street", x.street(4, 4), 0);
        Check.due("no people: ahead", x.findsIn(4, 1, 0), 0);
        Check.due("no rounds: of a street", x.street(4, 2), 0);
        Check.due("no rounds: a move", x.goesTo(4, 1), 4);
        Check.dueThrow("no rounds", Check.NO_SUCH, () -> x.round(0, 0));
        Check.dueThrow("no people", Check.NO_SUCH, () -> x.person(0, 0));
    }

    private static void townTellsTheFault() {
        Check.says("3: -10 less the FAULT");
        MovingNames x = new MovingNames();
        Check.due("1", Check.tell(x, "streets 2;A"), -11);
        Check.due("2", Check.tell(x, "streets 2"), -12);
        Check.due("3", Check.tell(x, "streets 21;"), -13);
        Check.due("4", Check.tell(x, "streets 2;rest (((((((1)))))))=1;"), -14);
        Check.due("none", Check.tell(x, "streets 2;"), 1);
    }

    private static void townWithAFaultLeavesAllElse() {
        Check.says("3: (all else stays)");
        String[] faults = {"", "A", "streets 21;", "streets 2;round: 0;blind 1;person 1 1;sign 0 1;houses 3;",
            "streets 3;round back by 2: 0 1;rest 1=1;blind 0;sign 0 2;houses 2;person 1 2;person 1 1;;"};
        for (String text : faults) {
            MovingNames x = Check.town(Check.SIX + "blind 2;rest day=9;");
            x.image(0);
            x.nights(4);
            x.hang(0, 5);
            x.tray(0, 0, 6);
            x.copy(0);
            Check.tell(x, "streets");
            String before = Check.seen(x).replaceAll("fault \\S+ \\S+", "");
            Check.tell(x, text);
            Check.dueText(text, Check.seen(x).replaceAll("fault \\S+ \\S+", ""), before);
            Check.due(text + ": the TRAY", x.ink(0), 0);
            Check.due(text + ": the deeds", x.undo(2), 0);
            Check.dueNames(text + ": undone", x, 0, 1, 2, 3, 4, 5);
            x.restore(0);
            Check.due(text + ": the IMAGE", x.count(5), 0);
        }
    }

    private static void faultOfTheLatest() {
        Check.says("4: Of the latest town() that threw nothing, what 0: the FAULT, 1: its place");
        MovingNames x = new MovingNames();
        Check.tell(x, "streets 2;blind 2;");
        Check.due("3", x.fault(0), 3);
        Check.due("16", x.fault(1), 16);
        Check.dueThrow("town(1)", Check.ARGUMENT, () -> x.town(1));
        Check.dueThrow("town(-1)", Check.ARGUMENT, () -> x.town(-1));
        Check.due("3 still", x.fault(0), 3);
        Check.due("16 still", x.fault(1), 16);
        Check.tell(x, "A");
        Check.due("1", x.fault(0), 1);
        Check.due("0", x.fault(1), 0);
    }

    private static void faultWithout() {
        Check.says("4: the FAULT (0 without, and at first), its place (NONE without)");
        MovingNames x = new MovingNames();
        Check.due("at first", x.fault(0), 0);
        Check.due("its place at first", x.fault(1), -1);
        Check.tell(x, "streets 2");
        Check.tell(x, "streets 2;");
        Check.due("without", x.fault(0), 0);
        Check.due("its place without", x.fault(1), -1);
    }

    private static void faultOfOthers() {
        Check.says("4: NONE for others");
        MovingNames x = new MovingNames();
        Check.tell(x, "streets 2;blind 2;");
        int[] others = {-1, 2, 3, Integer.MAX_VALUE, Integer.MIN_VALUE};
        for (int what : others) Check.due("fault(" + what + ")", x.fault(what), -1);
    }

    private static void streetOfEachWhat() {
        Check.says("5: what 0: the NAME on it, 1: 1 if it is blind, else 0, 2: ROUNDS it is in, as bits, 3: its CYCLE");
        MovingNames x = Check.town("streets 20;round: 19;round: 0 19;round: 19 1;round: 1 19 0;blind 18;sign 19 5;sign 0 19;");
        Check.due("the last name", x.street(0, 0), 19);
        Check.due("the last street", x.street(19, 0), 5);
        Check.due("blind", x.street(18, 1), 1);
        Check.due("not blind", x.street(19, 1), 0);
        Check.due("all rounds", x.street(19, 2), 15);
        Check.due("some rounds", x.street(0, 2), 10);
        Check.due("no rounds", x.street(2, 2), 0);
        Check.due("of none", x.street(2, 3), 1);
        Check.due("of twenty", Check.town(Check.ring(20)).street(19, 3), 20);
    }

    private static void streetPeople() {
        Check.says("5: 4: PEOPLE in it, as bits");
        StringBuilder text = new StringBuilder("streets 3;");
        for (int p = 0; p < 8; p++) text.append("person 2 1;");
        MovingNames x = Check.town(text.toString());
        Check.due("all", x.street(2, 4), 255);
        Check.due("none", x.street(0, 4), 0);
        x.moves(7, 0, 9);
        Check.due("the last one gone", x.street(2, 4), 127);
        Check.due("the last one there", x.street(0, 4), 128);
        x.moves(0, 1, 9);
        Check.due("the first one gone", x.street(2, 4), 126);
        Check.due("the first one there", x.street(1, 4), 1);
    }

    private static void roundOfEachWhat() {
        Check.says("6: what 0: how many STREETS, 1: by how many, 2: 1 if it goes back, else 0");
        MovingNames x = Check.town("streets 20;round: 3;round back: 3 4;round by 9: 19 0 2;round back by 9: 1;");
        int[][] want = {{1, 1, 0}, {2, 1, 1}, {3, 9, 0}, {1, 9, 1}};
        for (int r = 0; r < 4; r++) {
            for (int what = 0; what < 3; what++) Check.due("round(" + r + ", " + what + ")", x.round(r, what), want[r][what]);
        }
        x.takeOut(3, 0);
        Check.due("empty", x.round(0, 0), 0);
        Check.due("empty: by", x.round(0, 1), 1);
        Check.due("twenty", Check.town(Check.ring(20)).round(0, 0), 20);
    }

    private static void roundPlaces() {
        Check.says("6: 10 + k: the k-th STREET (NONE: not so many) (10 to 29)");
        MovingNames x = Check.town("streets 20;round: 19 0 2;round: 5;");
        Check.due("10", x.round(0, 10), 19);
        Check.due("11", x.round(0, 11), 0);
        Check.due("12", x.round(0, 12), 2);
        Check.due("13", x.round(0, 13), -1);
        Check.due("29", x.round(0, 29), -1);
        Check.due("10 of one", x.round(1, 10), 5);
        Check.due("11 of one", x.round(1, 11), -1);
        MovingNames y = Check.town(Check.ring(20));
        for (int k = 0; k < 20; k++) Check.due("of twenty: " + k, y.round(0, 10 + k), k);
        x.takeOut(5, 1);
        Check.due("10 of none", x.round(1, 10), -1);
        x.takeOut(2, 0);
        Check.due("12 of two", x.round(0, 12), -1);
    }

    private static void personOfEachWhat() {
        Check.says("7: Of a PERSON, what 0: its STREET, 1: its HOUSE, 2: the NAME it lives under");
        StringBuilder text = new StringBuilder("streets 20;houses 99;sign 19 3;");
        for (int p = 0; p < 7; p++) text.append("person 0 1;");
        MovingNames x = Check.town(text + "person 19 99;");
        Check.due("the last: its street", x.person(7, 0), 19);
        Check.due("the last: its house", x.person(7, 1), 99);
        Check.due("the last: the name", x.person(7, 2), 3);
        Check.due("the first: its street", x.person(0, 0), 0);
        Check.due("the first: its house", x.person(0, 1), 1);
        Check.due("the first: the name", x.person(0, 2), 0);
        x.hang(0, 19);
        Check.due("another name", x.person(0, 2), 19);
        Check.due("the same street", x.person(0, 0), 0);
    }

    private static void whereAsBits() {
        Check.says("8: STREETS where a NAME hangs, as bits");
        StringBuilder text = new StringBuilder("streets 20;");
        for (int s = 0; s < 20; s++) text.append("sign ").append(s).append(" 7;");
        MovingNames x = Check.town(text.toString());
        Check.due("all", x.where(7), (1 << 20) - 1);
        Check.due("none", x.where(19), 0);
        x.hang(19, 19);
        Check.due("the last", x.where(19), 1 << 19);
        x.hang(0, 0);
        Check.due("the first", x.where(0), 1);
        Check.due("all but two", x.where(7), (1 << 20) - 2 - (1 << 19));
    }

    private static void findsHouses() {
        Check.says("9: PEOPLE whom an ADDRESS finds, as bits (HOUSES 1 to how many)");
        MovingNames x = Check.town("streets 3;houses 99;person 1 1;person 1 99;person 2 99;");
        Check.due("house 1", x.finds(1, 1), 1);
        Check.due("house 99", x.finds(1, 99), 2);
        Check.due("house 99 of another", x.finds(2, 99), 4);
        Check.due("house 98", x.finds(1, 98), 0);
        Check.due("a street of none", x.finds(0, 1), 0);
        MovingNames w = Check.town(Check.ring(3) + "person 0 1;person 1 1;");
        Check.due("now, not by a MOVE", w.finds(0, 1), 1);
        w.nights(1);
        Check.due("behind a MOVE", w.finds(0, 1), 2);
        Check.due("none on the third street", w.finds(1, 1), 0);
        MovingNames y = Check.town("streets 3;houses 1;person 0 1;");
        Check.due("the only house", y.finds(0, 1), 1);
        Check.dueThrow("house 2 of one", Check.ARGUMENT, () -> y.finds(0, 2));
        MovingNames z = Check.town("streets 3;");
        Check.due("house 9 of nine", z.finds(0, 9), 0);
        Check.dueThrow("house 10 of nine", Check.ARGUMENT, () -> z.finds(0, 10));
    }

    private static void nameInFarAhead() {
        Check.says("10: The NAME on a STREET, n (-9999 to 9999) MOVES ahead");
        MovingNames x = Check.town(Check.ring(7));
        Check.due("9999", x.nameIn(0, 9999), 4);
        Check.due("-9999", x.nameIn(0, -9999), 3);
        Check.due("9996", x.nameIn(6, 9996), 6);
        Check.due("7", x.nameIn(6, 7), 6);
        Check.due("6", x.nameIn(6, 6), 0);
        Check.due("-6", x.nameIn(6, -6), 5);
        Check.due("0", x.nameIn(6, 0), 6);
        x.hang(0, 3);
        Check.due("a sign hung: 1", x.nameIn(1, 1), 3);
        Check.due("a sign hung: -1", x.nameIn(6, -1), 3);
    }

    private static void goesToFarAhead() {
        Check.says("11: To which STREET the SIGN of a STREET comes by n MOVES");
        MovingNames x = Check.town(Check.ring(7));
        Check.due("9999", x.goesTo(0, 9999), 3);
        Check.due("-9999", x.goesTo(0, -9999), 4);
        Check.due("7", x.goesTo(6, 7), 6);
        Check.due("1", x.goesTo(6, 1), 0);
        Check.due("-1", x.goesTo(0, -1), 6);
        Check.due("0", x.goesTo(0, 0), 0);
        Check.due("out of all rounds", Check.town("streets 3;").goesTo(2, 9999), 2);
        for (int s = 0; s < 7; s++) x.hang(s, 4);
        Check.due("signs of one name: 0", x.goesTo(0, 1), 1);
        Check.due("signs of one name: 4", x.goesTo(4, -1), 3);
        Check.due("signs of one name: a cycle", x.street(0, 3), 7);
    }

    private static void nightsOneTo99() {
        Check.says("12: n NIGHTS (1 to 99): how many of them MOVED");
        MovingNames x = Check.town(Check.ring(20) + "rest week=0;");
        Check.due("1 that rests", x.nights(1), 0);
        Check.due("1 that moves", x.nights(1), 1);
        Check.due("99", x.nights(99), 85);
        Check.due("DAY", x.count(5), 101);
        Check.due("MOVED", x.count(6), 86);
        Check.due("the name", x.street(0, 0), 14);
        MovingNames y = Check.town(Check.ring(20) + "rest moved=7;");
        Check.due("it stops", y.nights(99), 7);
        Check.due("for ever", y.nights(99), 0);
    }

    private static void restsTheComingNight() {
        Check.says("13: Whether the coming NIGHT rests");
        MovingNames x = Check.town("streets 2;rest day=1;");
        Check.due("DAY 0", x.rests(), false);
        x.nights(1);
        Check.due("DAY 1", x.rests(), true);
        Check.due("asked again", x.rests(), true);
        Check.due("no DEED", x.count(9), 1);
        x.nights(1);
        Check.due("DAY 2", x.rests(), false);
        x.undo(1);
        Check.due("DAY 1 again", x.rests(), true);
        Check.due("without a law", Check.town("streets 2;").rests(), false);
    }

    private static void movesInZeroTo999() {
        Check.says("14: How many of the n (0 to 999) NIGHTS to come MOVE");
        MovingNames x = Check.town("streets 2;rest day=0 or day=998 or day=999;");
        Check.due("0", x.movesIn(0), 0);
        Check.due("1", x.movesIn(1), 0);
        Check.due("2", x.movesIn(2), 1);
        Check.due("998", x.movesIn(998), 997);
        Check.due("999", x.movesIn(999), 997);
        x.nights(1);
        Check.due("999 from the next on", x.movesIn(999), 997);
        x.nights(1);
        Check.due("999 from later on", x.movesIn(999), 997);
        Check.due("it changes nothing", x.count(5), 2);
        MovingNames y = Check.town("streets 2;rest moved=9;");
        Check.due("MOVED goes on with them", y.movesIn(999), 9);
    }

    private static void nightsForZeroTo999() {
        Check.says("15: In how many NIGHTS (0 to 999) it will have MOVED n times (0 to 999)");
        MovingNames x = Check.town("streets 2;");
        Check.due("0", x.nightsFor(0), 0);
        Check.due("1", x.nightsFor(1), 1);
        Check.due("999", x.nightsFor(999), 999);
        x.nights(5);
        Check.due("999 from now on", x.nightsFor(999), 999);
        MovingNames y = Check.town("streets 2;rest day=0;");
        Check.due("0 before it rests", y.nightsFor(0), 0);
        Check.due("1 behind it", y.nightsFor(1), 2);
        Check.due("998", y.nightsFor(998), 999);
    }

    private static void nightsForNotInThese() {
        Check.says("15: NONE: not in these");
        MovingNames x = Check.town("streets 2;rest day=0;");
        Check.due("999", x.nightsFor(999), -1);
        MovingNames y = Check.town("streets 2;rest day<998;");
        Check.due("1 on the last", y.nightsFor(1), 999);
        Check.due("2 no more", y.nightsFor(2), -1);
        MovingNames z = Check.town("streets 2;rest day<999;");
        Check.due("1 no more", z.nightsFor(1), -1);
        Check.due("0 still", z.nightsFor(0), 0);
        MovingNames w = Check.town("streets 2;rest moved=3;");
        Check.due("3", w.nightsFor(3), 3);
        Check.due("4 never", w.nightsFor(4), -1);
    }

    private static void hangWhatHungThere() {
        Check.says("16: A SIGN with a NAME is hung on a STREET: the NAME that hung there");
        MovingNames x = Check.town("streets 20;");
        Check.due("the last name on the first street", x.hang(0, 19), 0);
        Check.due("the first name on the last street", x.hang(19, 0), 19);
        Check.due("the same name", x.hang(19, 0), 0);
        Check.due("deeds", x.count(9), 3);
        Check.due("streets that are wrong", x.count(8), 0);
        x.undo(1);
        Check.due("the same name undone", x.street(19, 0), 0);
    }

    private static void changeTellsHowManyAreWrong() {
        Check.says("17: The SIGNS of two STREETS change places: how many STREETS bear a NAME that hangs on another one, too");
        MovingNames x = Check.town("streets 20;");
        Check.due("none", x.change(0, 19), 0);
        Check.due("the first", x.street(0, 0), 19);
        Check.due("the last", x.street(19, 0), 0);
        x.hang(5, 6);
        Check.due("two", x.change(19, 0), 2);
        for (int s = 0; s < 20; s++) x.hang(s, 3);
        Check.due("all", x.change(1, 0), 20);
        x.hang(0, 0);
        Check.due("all but one", x.change(0, 1), 19);
        Check.due("like names, too", x.change(5, 6), 19);
    }

    private static void dueRound(String call, MovingNames x, int r, int... streets) {
        Check.due(call + ": how many", x.round(r, 0), streets.length);
        for (int k = 0; k < streets.length; k++) Check.due(call + ": " + k, x.round(r, 10 + k), streets[k]);
    }

    private static void letInAtEachPlace() {
        Check.says("18: at a place (those from there on go on by one): how many STREETS that has (0 to how many it has)");
        MovingNames x = Check.town("streets 6;round: 0 1 2;round: 3;");
        Check.due("at 0", x.letIn(5, 0, 0), 4);
        dueRound("at 0", x, 0, 5, 0, 1, 2);
        Check.due("within", x.letIn(4, 0, 2), 5);
        dueRound("within", x, 0, 5, 0, 4, 1, 2);
        Check.due("at the end", x.letIn(3, 0, 5), 6);
        dueRound("at the end", x, 0, 5, 0, 4, 1, 2, 3);
        dueRound("the other round", x, 1, 3);
        x.takeOut(3, 1);
        Check.due("the only one", x.letIn(2, 1, 0), 1);
        dueRound("the only one", x, 1, 2);
        Check.dueThrow("an empty round has place 0 alone", Check.ARGUMENT, () -> {
            x.takeOut(2, 1);
            x.letIn(2, 1, 1);
        });
    }

    private static void letInUpToAllStreets() {
        Check.says("18: how many STREETS that has: up to all");
        MovingNames x = Check.town("streets 20;round: 0;round: 0;round: 0;round: 0;");
        for (int r = 0; r < 4; r++) {
            for (int s = 1; s < 20; s++) Check.due("letIn(" + s + ", " + r + ")", x.letIn(s, r, r % 2 == 0 ? s : 0), s + 1);
        }
        Check.due("the last of the first", x.round(0, 29), 19);
        Check.due("the last of the second", x.round(1, 29), 0);
        Check.due("the first of the last", x.round(3, 10), 19);
        Check.due("all rounds", x.street(19, 2), 15);
        Check.due("to and fro", x.period(), 1);
    }

    private static void takeOutTheLast() {
        Check.says("19: A STREET is taken out of a ROUND: how many STREETS that has");
        MovingNames x = Check.town("streets 6;round: 0 1 2 3;round: 3;");
        Check.due("the first", x.takeOut(0, 0), 3);
        dueRound("the first", x, 0, 1, 2, 3);
        Check.due("within", x.takeOut(2, 0), 2);
        dueRound("within", x, 0, 1, 3);
        Check.due("the last", x.takeOut(3, 0), 1);
        dueRound("the last", x, 0, 1);
        dueRound("the other round", x, 1, 3);
        Check.due("the only one", x.takeOut(1, 0), 0);
        Check.due("it is a round still", x.count(2), 2);
        Check.due("no place", x.round(0, 10), -1);
        Check.dueThrow("again", Check.STATE, () -> x.takeOut(1, 0));
        Check.due("it moves still", x.nights(1), 1);
        Check.due("none moves", x.period(), 1);
        x.undo(5);
        dueRound("undone", x, 0, 0, 1, 2, 3);
    }

    private static void blindOrNoMore() {
        Check.says("20: A STREET is blind, or no more, if it was: 1 if it is then, else 0");
        MovingNames x = Check.town("streets 20;blind 5;");
        Check.due("the first", x.blind(0), 1);
        Check.due("the last", x.blind(19), 1);
        Check.due("one that was", x.blind(5), 0);
        Check.due("how many", x.count(7), 2);
        Check.due("again", x.blind(5), 1);
        Check.due("the last no more", x.blind(19), 0);
        Check.due("deeds", x.count(9), 5);
        for (int s = 1; s < 20; s++) if (s != 5) x.blind(s);
        Check.due("all", x.count(7), 20);
    }

    private static void movesToEachHouse() {
        Check.says("21: A PERSON MOVES HOUSE: the NAME it lives under then");
        MovingNames x = Check.town("streets 20;houses 99;person 3 4;person 3 4;sign 19 7;");
        Check.due("the last street and house", x.moves(1, 19, 99), 7);
        Check.due("its street", x.person(1, 0), 19);
        Check.due("its house", x.person(1, 1), 99);
        Check.due("the other stays", x.person(0, 0), 3);
        Check.due("the first street and house", x.moves(0, 0, 1), 0);
        Check.due("found there", x.finds(0, 1), 1);
        Check.due("where it is", x.moves(0, 0, 1), 0);
        Check.due("deeds", x.count(9), 3);
        x.undo(2);
        Check.due("undone: its street", x.person(0, 0), 3);
        Check.due("undone: its house", x.person(0, 1), 4);
        MovingNames y = Check.town(Check.ring(4) + "person 0 1;");
        y.moves(0, 2, 9);
        Check.due("the name it lives under", y.person(0, 2), 2);
        Check.due("the names", y.under(0, 1), 6);
        Check.due("the first night it is served", y.served(0, 0, 1), 2);
        Check.due("found there", y.findsIn(1, 9, 1), 1);
        Check.due("no more where it lived", y.street(0, 4), 0);
    }

    private static void undoOneToTen() {
        Check.says("22: n DEEDS are UNDONE (1 to 10): how many still can be");
        MovingNames x = Check.town("streets 20;");
        for (int n = 1; n <= 10; n++) x.hang(0, n);
        Check.due("undo(1)", x.undo(1), 9);
        Check.due("nine are left", x.street(0, 0), 9);
        Check.due("undo(9)", x.undo(9), 0);
        Check.due("none is left", x.street(0, 0), 0);
        for (int n = 1; n <= 10; n++) x.hang(0, n);
        Check.due("undo(10)", x.undo(10), 0);
        Check.due("all ten", x.street(0, 0), 0);
    }

    private static void undoAsManyAsThereAre() {
        Check.says("22: there aren't so many");
        MovingNames x = Check.town("streets 20;");
        Check.dueThrow("one of none", Check.ARGUMENT, () -> x.undo(1));
        x.hang(0, 1);
        x.hang(0, 2);
        Check.dueThrow("three of two", Check.ARGUMENT, () -> x.undo(3));
        Check.due("none was undone", x.street(0, 0), 2);
        Check.due("two of two", x.undo(2), 0);
        Check.dueThrow("one more", Check.ARGUMENT, () -> x.undo(1));
        Check.due("UNDONE is no deed", x.count(9), 0);
    }

    private static void dueJudged(String call, MovingNames x, int place, int why, int moved, int wrong) {
        Check.due(call + ": place", x.judge(0, 0), place);
        Check.due(call + ": why", x.judge(0, 1), why);
        Check.due(call + ": moved", x.judge(0, 2), moved);
        Check.due(call + ": wrong", x.judge(0, 3), wrong);
    }

    private static void judgeAsIfDone() {
        Check.says("23: TOLD DEEDS, judged as if done, what 0: the first place that can't be (NONE), 1: why (0), "
            + "2: how many NIGHTS MOVED, 3: how many STREETS bear a NAME that hangs on another one, too, then");
        MovingNames x = Check.town(Check.ring(6) + "rest day=1 or wrong>2;");
        String before = Check.seen(x);
        Check.row(x, 0, -1, -1, -1);
        dueJudged("nights", x, -1, 0, 2, 0);
        Check.row(x, 0, -1, 20, -1, 23, -1);
        // 1 hangs on streets 2, 0 and 3: the night of DAY 2 rests, as three are wrong then
        dueJudged("signs", x, -1, 0, 1, 3);
        Check.row(x, 0, 800);
        dueJudged("the first can't be", x, 0, 1, 0, 0);
        Check.row(x, 0, -1, 20, 421, -1, 800);
        dueJudged("the third can't be", x, 2, 2, 1, 2);
        Check.row(x, 0, -1, 20, 105, 500, 401, -1, -1, -2);
        dueJudged("the last can't be", x, 7, 1, 2, 2);
        Check.dueText("nothing is done", Check.seen(x), before);
    }

    private static void judgeOfNone() {
        Check.says("23: (NONE), (0): no deeds told");
        MovingNames x = Check.town(Check.ring(6) + "sign 0 1;");
        x.tray(0, 3, 0);
        dueJudged("none told", x, -1, 0, 0, 2);
        MovingNames y = new MovingNames();
        y.tray(0, 0, 2);
        dueJudged("no streets", y, 0, 1, 0, 0);
        y.write(0, 0, -1);
        dueJudged("no streets, a night", y, 1, 1, 1, 0);
    }

    private static void performTillOneCantBe() {
        Check.says("24: They are done, till one can't be: how many were");
        MovingNames x = Check.town(Check.ring(6));
        x.tray(0, 3, 0);
        Check.due("none told", x.perform(0), 0);
        Check.row(x, 0, 800, -1);
        Check.due("the first can't be", x.perform(0), 0);
        Check.due("no night", x.count(5), 0);
        Check.row(x, 0, -1, -1, 400, -1);
        Check.due("the third can't be", x.perform(0), 2);
        Check.due("two nights", x.count(5), 2);
        Check.row(x, 0, 0, 401);
        Check.due("all", x.perform(0), 2);
        MovingNames y = new MovingNames();
        y.tray(0, 0, 1);
        Check.due("no streets", y.perform(0), 0);
    }

    private static void performEachADeed() {
        Check.says("24: (each a DEED)");
        MovingNames x = Check.town(Check.ring(20));
        x.tray(0, 0, 30);
        for (int k = 0; k < 30; k++) x.write(0, k, -1);
        Check.due("thirty", x.perform(0), 30);
        Check.due("ten can be undone", x.count(9), 10);
        x.undo(3);
        Check.due("each alone", x.count(5), 27);
        Check.row(x, 0, 60, 401, -1, 800);
        Check.due("three", x.perform(0), 3);
        Check.due("ten again", x.count(9), 10);
        x.undo(3);
        Check.due("seven", x.count(9), 7);
        Check.due("as before", x.count(5), 27);
    }

    private static void monthEachADeed() {
        Check.says("25: A MONTH (each a DEED): how many of these could be");
        MovingNames x = Check.town(Check.ring(1));
        Check.due("all nights and signs", x.month(0, 30), 23);
        Check.due("ten can be undone", x.count(9), 10);
        MovingNames y = Check.town(Check.ring(5));
        Check.due("a sign", y.month(1, 1), 1);
        Check.due("one deed", y.count(9), 1);
        y.undo(1);
        Check.dueNames("undone", y, 0, 1, 2, 3, 4);
        Check.due("four", y.month(0, 4), 4);
        Check.due("four deeds", y.count(9), 4);
        Check.due("four nights", y.count(5), 4);
        y.undo(1);
        Check.due("each alone", y.count(5), 3);
        MovingNames z = Check.town(Check.ring(5) + "rest 1=1;");
        Check.due("nights that rest could be", z.month(0, 4), 4);
        Check.due("none moved", z.count(6), 0);
    }
}
