/** Promises 26 to 52: what is just allowed, empty, full or once round; what is refused is in EdgeThrowTest. */
public final class EdgeAskTest {
    public static void main(String[] args) {
        periodWithoutStreets();
        asNowFrom1On();
        whenNever();
        followsTheLeast();
        followsNever();
        againFrom1On();
        besideOfThePeriod();
        visitsZeroTo999();
        underZeroTo999();
        homeOfEachLetter();
        homeNotInThese();
        writtenOfBoth();
        servedOfBoth();
        findsInFarAhead();
        rightFarAhead();
        rightDaysZeroTo999();
        rightDaysOfManyStreets();
        harmFarAhead();
        leastHarmOneTo999();
        errorsOfEachWhat();
        inkOfAsMany();
        changesOfUnlikeNames();
        changesNotByAny();
        twiceAndMore();
        lostNowhere();
        trayOfZeros();
        trayAgain();
        writeAsItIsThere();
        copyFromTheFirstPlace();
        copyCutsNothing();
        imageMadeAnew();
        restoreAgain();
        restoreOfNoTown();
        countOfEachWhat();
        countOfOthers();
        countOfDeedsAndTape();
        askingChangesNothing();
        Check.end("EdgeAskTest");
    }

    private static void periodWithoutStreets() {
        Check.says("26: PERIOD (1 without STREETS)");
        Check.due("a new object", new MovingNames().period(), 1);
        MovingNames x = Check.town(Check.ring(20));
        Check.due("twenty", x.period(), 20);
        for (int s = 0; s < 10; s++) x.takeOut(2 * s, 0);
        Check.due("ten", x.period(), 10);
        for (int s = 0; s < 20; s++) x.hang(s, 7);
        Check.due("ten of one name", x.period(), 10);
        for (int s = 0; s < 9; s++) x.blind(2 * s + 1);
        Check.due("one open", x.period(), 1);
    }

    private static void asNowFrom1On() {
        Check.says("27: AS NOW");
        Check.due("a new object", new MovingNames().asNow(), 1);
        Check.due("no round", Check.town("streets 20;").asNow(), 1);
        MovingNames x = Check.town(Check.TEN);
        Check.due("the whole period", x.asNow(), 30);
        for (int s = 5; s < 10; s++) x.hang(s, 5);
        Check.due("five alike", x.asNow(), 6);
        for (int s = 2; s < 5; s++) x.hang(s, 5);
        Check.due("eight alike", x.asNow(), 2);
        x.hang(0, 1);
        Check.due("all rounds alike", x.asNow(), 1);
    }

    private static void whenNever() {
        Check.says("28: WHEN; NONE: never");
        MovingNames x = Check.town(Check.TEN);
        Check.row(x, 0, 20 * 2 + 0);
        Check.due("another round", x.when(0), -1);
        Check.row(x, 0, 0, 20 * 1 + 0);
        Check.due("two names on one street", x.when(0), -1);
        Check.row(x, 0, 0, 20 * 0 + 1);
        Check.due("one sign on two streets", x.when(0), -1);
        Check.row(x, 0, 20 * 0 + 1, 20 * 2 + 3, 20 * 3 + 3);
        Check.due("some of them", x.when(0), -1);
        x.hang(1, 0);
        Check.row(x, 0, 0, 20 * 0 + 1);
        Check.due("two signs of one name", x.when(0), 0);
        Check.row(x, 0, 20 * 1 + 0);
        Check.due("a name that hangs nowhere", x.when(0), -1);
        MovingNames y = Check.town("streets 20;round: 0 1 2 3 4;round: 5 6 7 8 9 10 11;round: 12 13 14 15;round: 16 17 18;");
        Check.row(y, 0, 20 * 1 + 0, 20 * 6 + 5, 20 * 13 + 12, 20 * 17 + 16);
        Check.due("419", y.when(0), 419);
    }

    private static void followsTheLeast() {
        Check.says("29: The fewest MOVES (0 too) till two STREETS' SIGNS of now hang on one STREET one behind the other");
        MovingNames x = Check.town(Check.ring(20));
        Check.due("the next one", x.follows(1, 0), 0);
        Check.due("the first and last", x.follows(0, 19), 0);
        Check.due("by 9", Check.town(Check.ring(20).replace(":", " by 9:")).follows(3, 14), 0);
        Check.due("two: 0, 1", Check.town(Check.ring(2)).follows(0, 1), 0);
        Check.due("two: 1, 0", Check.town(Check.ring(2)).follows(1, 0), 0);
        MovingNames y = Check.town("streets 3;round: 0 1 2;blind 1;");
        Check.due("over a blind one", y.follows(2, 0), 0);
    }

    private static void followsNever() {
        Check.says("29: NONE: never");
        MovingNames x = Check.town(Check.ring(20));
        Check.due("the other way", x.follows(0, 1), -1);
        Check.due("two apart", x.follows(2, 0), -1);
        Check.due("the last and first", x.follows(19, 0), -1);
        Check.due("no rounds", Check.town("streets 3;").follows(1, 0), -1);
        Check.due("two rounds", Check.town(Check.TEN).follows(0, 2), -1);
        MovingNames y = Check.town("streets 3;round: 0 1 2;blind 1;");
        Check.due("a blind one", y.follows(1, 0), -1);
        MovingNames z = Check.town(Check.ring(3) + "sign 0 1;sign 2 1;");
        Check.due("signs, not names", z.follows(0, 1), -1);
        Check.due("signs, not names: the next one", z.follows(1, 0), 0);
    }

    private static void againFrom1On() {
        Check.says("30: The fewest MOVES from 1 on till the NAME that hangs on a STREET now hangs there again");
        Check.due("twenty", Check.town(Check.ring(20)).again(19), 20);
        Check.due("no round", Check.town("streets 2;").again(0), 1);
        MovingNames x = Check.town(Check.ring(4) + "sign 0 2;");
        Check.due("two apart: 0", x.again(0), 2);
        Check.due("two apart: 2", x.again(2), 2);
        Check.due("the others", x.again(1), 4);
        x.hang(3, 2);
        Check.due("the one behind", x.again(0), 1);
        Check.due("the last of three", x.again(2), 2);
    }

    private static void besideOfThePeriod() {
        Check.says("31: On how many of the MOVES 0 to PERIOD less 1 ahead");
        MovingNames x = Check.town(Check.ring(4));
        Check.due("0, 1", x.beside(0, 1), 3);
        Check.due("1, 0", x.beside(1, 0), 3);
        Check.due("0, 2", x.beside(0, 2), 0);
        Check.due("0, 3: the ends are not beside", x.beside(0, 3), 3);
        Check.due("a period of 1", Check.town("streets 3;").beside(1, 2), 1);
        Check.due("a period of 1: none", Check.town("streets 3;").beside(0, 2), 0);
        MovingNames y = Check.town("streets 10;round: 2 3 4;round: 5 6 7 8 9;");
        Check.due("of a longer period than theirs", y.beside(0, 1), 15);
        Check.due("of one round", y.beside(1, 2), 5);
        Check.due("of both rounds", y.beside(4, 5), 1);
        for (int s = 0; s < 10; s++) y.hang(s, 7);
        Check.due("signs, not names", y.beside(0, 1), 15);
        Check.due("signs, not names: both rounds", y.beside(4, 5), 1);
    }

    private static void visitsZeroTo999() {
        Check.says("32: STREETS on which a NAME hangs on some of the MOVES 0 to n (0 to 999) ahead");
        MovingNames x = Check.town(Check.ring(20));
        Check.due("0", x.visits(5, 0), 1 << 5);
        Check.due("1", x.visits(5, 1), 3 << 5);
        Check.due("18", x.visits(5, 18), (1 << 20) - 1 - (1 << 4));
        Check.due("19", x.visits(5, 19), (1 << 20) - 1);
        Check.due("999", x.visits(5, 999), (1 << 20) - 1);
        Check.due("the first", x.visits(0, 0), 1);
        Check.due("the last", x.visits(19, 0), 1 << 19);
        Check.due("the last by one", x.visits(19, 1), 1 + (1 << 19));
        Check.due("the first by 20", x.visits(0, 20), (1 << 20) - 1);
        MovingNames y = Check.town(Check.ring(3) + "person 1 1;");
        for (int n = 2; n <= 7; n++) {
            Check.due("once and again by " + n, y.visits(0, n), 7);
            Check.due("lived under by " + n, y.under(0, n), 7);
        }
        Check.due("once and again by 999", y.visits(0, 999), 7);
        Check.due("lived under by 999", y.under(0, 999), 7);
        x.hang(5, 6);
        Check.due("nowhere", x.visits(5, 999), 0);
        Check.due("two signs", x.visits(6, 1), 7 << 5);
    }

    private static void underZeroTo999() {
        Check.says("33: NAMES under which a PERSON lives on some of the MOVES 0 to n (0 to 999) ahead");
        MovingNames x = Check.town(Check.ring(20) + "person 5 1;");
        Check.due("0", x.under(0, 0), 1 << 5);
        Check.due("1", x.under(0, 1), 3 << 4);
        Check.due("18", x.under(0, 18), (1 << 20) - 1 - (1 << 6));
        Check.due("19", x.under(0, 19), (1 << 20) - 1);
        Check.due("999", x.under(0, 999), (1 << 20) - 1);
        Check.due("no round", Check.town("streets 3;person 1 1;").under(0, 999), 2);
    }

    private static void homeOfEachLetter() {
        Check.says("34: what 0: the fewest MOVES, 10 + k: on which letter k is brought (10 and as many as it has)");
        MovingNames x = Check.town(Check.ring(20));
        Check.row(x, 0, 3);
        Check.due("one", x.home(0, 0), 3);
        Check.due("its letter", x.home(0, 10), 3);
        Check.dueThrow("no second", Check.ARGUMENT, () -> x.home(0, 11));
        Check.row(x, 0, 3, 2, 2, 9, 8, 7, 6, 5);
        Check.due("eight", x.home(0, 0), 22);
        int[] nights = {3, 2, 22, 9, 8, 7, 6, 5};
        for (int k = 0; k < 8; k++) Check.due("letter " + k, x.home(0, 10 + k), nights[k]);
        Check.dueThrow("no ninth", Check.ARGUMENT, () -> x.home(0, 18));
        Check.dueThrow("what 9", Check.ARGUMENT, () -> x.home(0, 9));
    }

    private static void homeNotInThese() {
        Check.says("34: (NONE: not in these)");
        MovingNames x = Check.town(Check.ring(20));
        Check.row(x, 0, 0, 0, 0, 0);
        Check.due("on 60 alone", x.home(0, 0), -1);
        for (int k = 0; k < 4; k++) Check.due("letter " + k, x.home(0, 10 + k), -1);
        Check.row(x, 0, 0, 0, 0);
        Check.due("one less", x.home(0, 0), 40);
        x.hang(0, 1);
        Check.row(x, 0, 0);
        Check.due("a name that hangs nowhere", x.home(0, 0), -1);
    }

    private static void writtenOfBoth() {
        Check.says("35: WRITTEN (no such NAME, STREET; t)");
        MovingNames x = Check.town(Check.ring(20));
        Check.due("the first of each", x.written(0, 0, 0), 5);
        Check.due("the last of each", x.written(19, 19, 99), 0);
        Check.due("the last name on the first street", x.written(19, 0, 99), 1);
        Check.due("the first name on the last street", x.written(0, 19, 1), 5);
        x.hang(19, 0);
        Check.due("two of one name", x.written(0, 0, 0), 10);
        Check.due("a name that hangs nowhere", x.written(19, 0, 0), 0);
    }

    private static void servedOfBoth() {
        Check.says("36: SERVED, what 0: how many, 1: the first (NONE)");
        MovingNames x = Check.town(Check.ring(20) + "person 0 1;person 19 1;");
        Check.due("the last person", x.served(1, 19, 1), 0);
        Check.due("how many", x.served(1, 19, 0), 5);
        Check.due("the first name", x.served(1, 0, 1), 19);
        x.hang(18, 19);
        Check.due("two of one name", x.served(1, 19, 0), 10);
        Check.due("no more", x.served(1, 18, 0), 0);
        Check.due("none", x.served(1, 18, 1), -1);
    }

    private static void findsInFarAhead() {
        Check.says("37: PEOPLE whom an ADDRESS finds n MOVES ahead");
        MovingNames x = Check.town(Check.ring(7) + "person 0 1;person 3 9;person 3 1;");
        Check.due("0", x.findsIn(0, 1, 0), 1);
        Check.due("9999", x.findsIn(0, 9, 9999), 2);
        Check.due("9999, house 1", x.findsIn(0, 1, 9999), 4);
        Check.due("9999: the other", x.findsIn(4, 1, 9999), 1);
        Check.due("-9999", x.findsIn(3, 1, -9999), 1);
        Check.due("-9999: the others", x.findsIn(6, 1, -9999), 4);
        Check.due("house 2", x.findsIn(0, 2, 0), 0);
    }

    private static void rightFarAhead() {
        Check.says("38: For how many STREETS a map of n MOVES ahead is RIGHT");
        MovingNames x = Check.town(Check.TEN);
        Check.due("9999", x.right(9999), 3);
        Check.due("-9999", x.right(-9999), 3);
        Check.due("9998", x.right(9998), 2);
        Check.due("9990", x.right(9990), 10);
        Check.due("9991", x.right(9991), 0);
        Check.due("0", x.right(0), 10);
    }

    private static void rightDaysZeroTo999() {
        Check.says("39: On how many of the MOVES 1 to n (0 to 999) ahead");
        MovingNames x = Check.town(Check.ring(3));
        Check.due("0", x.rightDays(3, 0), 0);
        Check.due("2", x.rightDays(3, 2), 0);
        Check.due("3", x.rightDays(3, 3), 1);
        Check.due("5", x.rightDays(3, 5), 1);
        Check.due("998", x.rightDays(3, 998), 332);
        Check.due("999", x.rightDays(3, 999), 333);
        Check.due("MOVE 0 is not one", Check.town("streets 3;").rightDays(3, 0), 0);
        Check.due("all of them", Check.town("streets 3;").rightDays(3, 999), 999);
    }

    private static void rightDaysOfManyStreets() {
        Check.says("39: a map is RIGHT for k STREETS and more");
        MovingNames x = Check.town(Check.ring(3) + "sign 1 0;");
        Check.due("0", x.rightDays(0, 9), 9);
        // one of the two 0s hangs where one hung on each of the others
        Check.due("1", x.rightDays(1, 9), 9);
        Check.due("2", x.rightDays(2, 9), 3);
        Check.due("3", x.rightDays(3, 9), 3);
        Check.due("4", x.rightDays(4, 9), 0);
        Check.due("most", x.rightDays(Integer.MAX_VALUE, 9), 0);
        Check.due("no streets: 0", new MovingNames().rightDays(0, 999), 999);
        Check.due("no streets: 1", new MovingNames().rightDays(1, 999), 0);
    }

    private static void harmFarAhead() {
        Check.says("40: HARM of a map of n MOVES ahead");
        MovingNames x = Check.town(Check.ring(20));
        Check.due("0", x.harm(0), 0);
        Check.due("1", x.harm(1), 38);
        Check.due("9999", x.harm(9999), 38);
        Check.due("-9999", x.harm(-9999), 38);
        Check.due("9990: half of the round", x.harm(9990), 200);
        Check.due("9980", x.harm(9980), 0);
        Check.due("no streets", new MovingNames().harm(9999), 0);
    }

    private static void leastHarmOneTo999() {
        Check.says("41: The MOVES 1 to n (1 to 999) ahead by which HARM is least, the first");
        MovingNames x = Check.town(Check.ring(20));
        Check.due("1", x.leastHarm(1), 1);
        Check.due("19: the first of like ones", x.leastHarm(19), 1);
        Check.due("20", x.leastHarm(20), 20);
        Check.due("999: the first of like ones", x.leastHarm(999), 20);
        Check.due("no harm at all", Check.town("streets 3;").leastHarm(999), 1);
        // 2 alone counts: it comes to 0, to 1 and back
        Check.due("a harm of one is not the least", Check.town(Check.ring(3) + "sign 1 0;").leastHarm(3), 3);
        MovingNames y = Check.town("streets 4;round: 0 2 1 3;");
        // by 1: 2, 2, 1, 3; by 2: 1, 1, 1, 1
        Check.due("by 1 of the other", y.leastHarm(1), 1);
        Check.due("by 2 of the other", y.leastHarm(2), 2);
        Check.due("by 3 of the other", y.leastHarm(3), 2);
        Check.due("no streets", new MovingNames().leastHarm(999), 1);
        MovingNames z = Check.town("streets 20;round: 0 1 2 3 4;round: 5 6 7 8 9 10 11;round: 12 13 14 15;round: 16 17 18;");
        Check.due("420", z.leastHarm(999), 420);
    }

    private static void errorsOfEachWhat() {
        Check.says("42: ERRORS, what 0: how many, 1: MOVES, 2: STREETS, as bits");
        MovingNames x = Check.town(Check.ring(20));
        x.tray(0, 0, 20);
        for (int s = 0; s < 20; s++) x.write(0, s, (s + 1) % 20);
        Check.due("none: how many", x.errors(0, 0), 0);
        Check.due("none: MOVES", x.errors(0, 1), 19);
        Check.due("none: STREETS", x.errors(0, 2), 0);
        x.write(0, 19, 19);
        x.write(0, 0, 0);
        Check.due("two: how many", x.errors(0, 0), 2);
        Check.due("two: MOVES", x.errors(0, 1), 19);
        Check.due("two: STREETS", x.errors(0, 2), 1 + (1 << 19));
        MovingNames y = new MovingNames();
        y.tray(0, 0, 0);
        for (int what = 0; what < 3; what++) Check.due("no streets: " + what, y.errors(0, what), 0);
    }

    private static void inkOfAsMany() {
        Check.says("43: INK (as many numbers as STREETS)");
        MovingNames x = Check.town("streets 20;");
        x.tray(0, 0, 20);
        Check.due("all but one", x.ink(0), 19);
        for (int s = 0; s < 20; s++) x.write(0, s, 19 - s);
        Check.due("all", x.ink(0), 20);
        for (int s = 0; s < 20; s++) x.write(0, s, s);
        Check.due("none", x.ink(0), 0);
        MovingNames y = new MovingNames();
        y.tray(0, 0, 0);
        Check.due("no streets", y.ink(0), 0);
        y.tray(0, 0, 1);
        Check.dueThrow("one of none", Check.ARGUMENT, () -> y.ink(0));
        MovingNames z = Check.town("streets 1;");
        z.tray(0, 0, 1);
        Check.due("one", z.ink(0), 0);
    }

    private static void changesOfUnlikeNames() {
        Check.says("44: CHANGES (SIGNS of unlike NAMES all, else -2)");
        MovingNames x = Check.town("streets 4;sign 0 1;");
        Check.row(x, 0, 1, 1, 2, 3);
        Check.due("as they hang", x.changes(0), -2);
        Check.row(x, 0, 1, 2, 1, 3);
        Check.due("the same ones", x.changes(0), -2);
        x.hang(0, 0);
        Check.row(x, 0, 0, 1, 2, 3);
        Check.due("unlike ones", x.changes(0), 0);
        x.hang(3, 2);
        Check.row(x, 0, 0, 1, 2, 2);
        Check.due("the last two", x.changes(0), -2);
        MovingNames y = new MovingNames();
        y.tray(0, 0, 0);
        Check.due("no streets", y.changes(0), 0);
    }

    private static void changesNotByAny() {
        Check.says("44: NONE: not by any");
        MovingNames x = Check.town("streets 4;");
        Check.row(x, 0, 0, 1, 2, 2);
        Check.due("the last twice", x.changes(0), -1);
        Check.row(x, 0, 3, 3, 3, 3);
        Check.due("one alone", x.changes(0), -1);
        Check.row(x, 0, 1, 1, 0, 3);
        Check.due("the first twice", x.changes(0), -1);
        Check.row(x, 0, 3, 2, 1, 0);
        Check.due("two", x.changes(0), 2);
    }

    private static void twiceAndMore() {
        Check.says("45: NAMES that hang on two STREETS and more, as bits");
        MovingNames x = Check.town("streets 20;");
        Check.due("none", x.twice(), 0);
        x.hang(0, 19);
        Check.due("the last on two", x.twice(), 1 << 19);
        x.hang(1, 19);
        Check.due("the last on three", x.twice(), 1 << 19);
        x.hang(19, 0);
        Check.due("the last on two still", x.twice(), 1 << 19);
        x.hang(2, 0);
        Check.due("the first, too", x.twice(), 1 + (1 << 19));
        Check.due("no streets", new MovingNames().twice(), 0);
    }

    private static void lostNowhere() {
        Check.says("46: NAMES that hang nowhere, as bits");
        MovingNames x = Check.town("streets 20;");
        Check.due("none", x.lost(), 0);
        x.hang(0, 19);
        Check.due("the first", x.lost(), 1);
        x.hang(19, 5);
        Check.due("the last hangs still", x.lost(), 1);
        x.hang(0, 5);
        Check.due("the last, too", x.lost(), 1 + (1 << 19));
        for (int s = 0; s < 20; s++) x.hang(s, 5);
        Check.due("all but one", x.lost(), (1 << 20) - 1 - (1 << 5));
        Check.due("no streets", new MovingNames().lost(), 0);
    }

    private static void trayOfZeros() {
        Check.says("47: A TRAY is a row of so many 0s");
        MovingNames x = Check.town("streets 20;");
        for (int s = 0; s < 20; s++) x.hang(s, 0);
        for (int tray = 0; tray < 4; tray++) {
            x.tray(tray, tray, 20);
            Check.due("tray " + tray, x.ink(tray), 0);
            x.write(tray, 0, 3);
            x.write(tray, 19, 3);
            Check.due("two numbers in it", x.ink(tray), 2);
            x.tray(tray, tray, 20);
            Check.due("0s again", x.ink(tray), 0);
        }
    }

    private static void trayAgain() {
        Check.says("47: (a TRAY made anew has the new sort and as many)");
        MovingNames x = new MovingNames();
        x.tray(2, 3, 30);
        x.write(2, 29, 5);
        x.tray(2, 0, 2);
        Check.due("8 bits now", x.write(2, 1, 257), 1);
        Check.dueThrow("two places now", Check.INDEX, () -> x.write(2, 2, 0));
        x.tray(2, 3, 30);
        Check.due("64 bits now", x.write(2, 28, 257), 257);
        Check.dueThrow("the others are MISSING still", Check.STATE, () -> x.write(1, 0, 0));
    }

    private static void writeAsItIsThere() {
        Check.says("48: A number comes to a place of a TRAY, cut to its sort: as it is there");
        MovingNames x = Check.town("streets 2;");
        x.tray(0, 0, 2);
        Check.due("the first place", x.write(0, 0, 256), 0);
        Check.due("the last place", x.write(0, 1, 257), 1);
        Check.due("as they are there", x.ink(0), 0);
        Check.due("-1", x.write(0, 1, 255), -1);
        Check.due("not seen", x.errors(0, 0), 0);
        Check.dueThrow("no name", Check.ARGUMENT, () -> x.ink(0));
        x.tray(3, 3, 30);
        Check.due("the last of thirty", x.write(3, 29, Long.MIN_VALUE), Long.MIN_VALUE);
    }

    private static void copyFromTheFirstPlace() {
        Check.says("49: NAMES on STREETS come into a TRAY from its first place on, as many as it has places: how many");
        MovingNames x = Check.town("streets 4;sign 0 3;sign 3 0;");
        x.tray(0, 0, 4);
        Check.due("as many", x.copy(0), 4);
        Check.due("the names", x.ink(0), 0);
        x.tray(0, 0, 0);
        Check.due("no places", x.copy(0), 0);
        x.tray(0, 0, 1);
        Check.due("one place", x.copy(0), 1);
        x.tray(0, 0, 3);
        Check.due("one place less", x.copy(0), 3);
        // the tray has 3, 1, 2 by now: as told deeds they hang 0 on streets 3, 1 and 2
        Check.due("told", x.perform(0), 3);
        Check.dueNames("told", x, 3, 0, 0, 0);
        Check.row(x, 1, 7, 7, 7, 7, -1, 9);
        Check.due("more places", x.copy(1), 4);
        Check.due("those behind stay", x.judge(1, 0), 5);
        Check.due("a night is the fifth", x.judge(1, 2), 1);
        MovingNames y = new MovingNames();
        y.tray(0, 0, 30);
        Check.due("no streets", y.copy(0), 0);
    }

    private static void copyCutsNothing() {
        Check.says("49: as many as it has places (of each sort)");
        MovingNames x = Check.town(Check.ring(20));
        x.nights(7);
        for (int sort = 0; sort < 4; sort++) {
            x.tray(sort, sort, 20);
            Check.due("sort " + sort, x.copy(sort), 20);
            Check.due("sort " + sort + ": the names", x.ink(sort), 0);
        }
        x.nights(1);
        Check.due("they stay as they were", x.ink(3), 20);
    }

    private static void imageMadeAnew() {
        Check.says("50: An IMAGE is made");
        MovingNames x = Check.town(Check.ring(6));
        for (int i = 0; i < 3; i++) {
            x.hang(0, i + 1);
            x.image(i);
        }
        x.hang(0, 5);
        for (int i = 2; i >= 0; i--) {
            x.restore(i);
            Check.due("image " + i, x.street(0, 0), i + 1);
            Check.due("its deeds", x.count(9), i + 1);
        }
        x.hang(0, 5);
        x.image(1);
        x.restore(0);
        x.restore(1);
        Check.due("made anew", x.street(0, 0), 5);
        x.restore(2);
        Check.due("the others stay", x.street(0, 0), 3);
        Check.due("it is no DEED", x.count(9), 3);
    }

    private static void restoreAgain() {
        Check.says("51: All is as in an IMAGE");
        MovingNames x = Check.town(Check.SIX + "rest week=1;");
        for (int n = 0; n < 11; n++) x.nights(1);
        x.image(0);
        String then = Check.seen(x);
        x.undo(10);
        x.restore(0);
        Check.dueText("after undo(10)", Check.seen(x), then);
        Check.due("it can be undone again", x.undo(10), 0);
        Check.due("to DAY 1", x.count(5), 1);
        x.restore(0);
        for (int n = 0; n < 12; n++) x.hang(n % 6, 0);
        x.restore(0);
        Check.dueText("after twelve deeds", Check.seen(x), then);
        x.undo(1);
        Check.due("the deed of then is undone", x.count(5), 10);
        x.image(1);
        x.restore(0);
        Check.due("an image leaves the other", x.count(5), 11);
    }

    private static void restoreOfNoTown() {
        Check.says("51: All is as in an IMAGE: of a new object, too");
        MovingNames x = new MovingNames();
        x.image(2);
        x.nights(3);
        x.restore(2);
        Check.due("no deed", x.count(9), 0);
        Check.due("no day", x.count(5), 0);
        Check.tell(x, "streets 3;houses 4;round: 0 1;person 1 1;blind 1;sign 0 1;rest 1=1;");
        x.restore(2);
        int[] counts = {0, 0, 0, 0, 9, 0, 0, 0, 0, 0, 0};
        for (int what = 0; what < counts.length; what++) Check.due("count(" + what + ")", x.count(what), counts[what]);
        Check.due("no law", x.rests(), false);
        Check.dueThrow("no street", Check.NO_SUCH, () -> x.street(0, 0));
    }

    private static void countOfEachWhat() {
        Check.says("52: 0 LINES, 1 STREETS, 2 ROUNDS, 3 PEOPLE, 4 HOUSES, 5 DAY, 6 MOVED, 7 blind ones, 8 STREETS that are wrong");
        StringBuilder text = new StringBuilder("streets 20;houses 99;round: 0;round: 0;round: 0;round: 0;");
        for (int p = 0; p < 8; p++) text.append("person 0 1;");
        for (int s = 0; s < 20; s++) text.append("blind ").append(s).append(";sign ").append(s).append(" 7;");
        MovingNames x = Check.town(text.toString());
        int[] full = {54, 20, 4, 8, 99, 0, 0, 20, 20, 0, 0};
        for (int what = 0; what < full.length; what++) Check.due("full: " + what, x.count(what), full[what]);
        Check.tell(x, "streets 1;houses 1;");
        int[] least = {2, 1, 0, 0, 1, 0, 0, 0, 0, 0, 0};
        for (int what = 0; what < least.length; what++) Check.due("least: " + what, x.count(what), least[what]);
        MovingNames y = Check.town("streets 2;rest week=0;");
        for (int n = 0; n < 100; n++) y.nights(99);
        Check.due("DAY 9900", y.count(5), 9900);
        Check.due("MOVED", y.count(6), 9900 - 1415);
        Check.due("LINES stay", y.count(0), 2);
    }

    private static void countOfOthers() {
        Check.says("52: NONE for others");
        MovingNames x = Check.town(Check.SIX);
        int[] others = {-1, 11, 12, Integer.MAX_VALUE, Integer.MIN_VALUE};
        for (int what : others) Check.due("count(" + what + ")", x.count(what), -1);
    }

    private static void countOfDeedsAndTape() {
        Check.says("52: 9 DEEDS that can be UNDONE, 10 bytes on the tape");
        MovingNames x = Check.town(Check.SIX);
        for (int n = 1; n <= 12; n++) {
            x.blind(n % 6);
            Check.due("after " + n, x.count(9), Math.min(n, 10));
        }
        x.undo(10);
        Check.due("undone", x.count(9), 0);
        for (int n = 1; n <= 46; n++) {
            x.feed(0, 0, 0, 0, 0);
            Check.due("fed " + n, x.count(10), Math.min(20 * n, 900));
        }
        x.town(3);
        Check.due("behind town()", x.count(10), 0);
    }

    private static void askingChangesNothing() {
        Check.says("Nothing is promised beyond the answers and state changes described");
        MovingNames x = Check.town(Check.SIX + "blind 2;rest day=2;");
        x.nights(3);
        x.hang(0, 5);
        x.image(0);
        Check.row(x, 0, 0, 1, 2, 3, 4, 5);
        Check.row(x, 1, 0, 21);
        Check.row(x, 2, -1, 3, 401, -1, 800);
        String before = Check.seen(x);
        for (int what = 0; what < 5; what++) x.street(1, what);
        for (int what = 0; what < 3; what++) x.person(1, what);
        x.round(1, 12);
        x.where(5);
        x.finds(5, 1);
        x.nameIn(1, 50);
        x.goesTo(1, -50);
        x.rests();
        x.movesIn(999);
        x.nightsFor(999);
        for (int what = 0; what < 4; what++) x.judge(2, what);
        x.period();
        x.asNow();
        x.when(1);
        x.follows(1, 0);
        x.again(0);
        x.beside(0, 1);
        x.visits(5, 999);
        x.under(0, 999);
        x.home(1, 0);
        x.home(1, 11);
        x.written(5, 0, 0);
        x.served(0, 5, 0);
        x.findsIn(5, 1, 7);
        x.right(7);
        x.rightDays(1, 99);
        x.harm(7);
        x.leastHarm(99);
        for (int what = 0; what < 3; what++) x.errors(0, what);
        x.ink(0);
        x.changes(0);
        x.twice();
        x.lost();
        x.fault(0);
        Check.dueText("asked", Check.seen(x), before);
        x.write(0, 0, 1);
        x.copy(0);
        x.tray(3, 0, 0);
        Check.dueText("trays written", Check.seen(x), before);
        Check.due("the TRAY of deeds stays", x.perform(2), 4);
        x.restore(0);
        Check.dueText("the IMAGE stays", Check.seen(x), before);
        Check.due("the deeds stay", x.undo(2), 0);
        Check.dueNames("undone", x, 0, 1, 2, 3, 4, 5);
    }
}
