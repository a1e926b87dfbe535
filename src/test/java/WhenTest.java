/** Promises 26 to 37: periods, when signs hang together, visits; letters home and written, who is served. */
public final class WhenTest {
    public static void main(String[] args) {
        period();
        asNow();
        when();
        follows();
        again();
        beside();
        visits();
        under();
        home();
        homeOfLikeLetters();
        written();
        served();
        findsIn();
        Check.end("WhenTest");
    }

    private static void period() {
        Check.due("period: no streets", new MovingNames().period(), 1);
        Check.due("period: no rounds", Check.town("streets 9;").period(), 1);
        Check.due("period: six", Check.town(Check.SIX).period(), 3);
        MovingNames x = Check.town(Check.TEN);
        Check.due("period: ten", x.period(), 30);
        x.hang(0, 1);
        Check.due("period: signs of one name are two", x.period(), 30);
        x.blind(0);
        Check.due("period: blind", x.period(), 15);
        MovingNames y = Check.town("streets 20;round: 0 1 2;round: 3 4 5 6;round: 7 8 9 10 11;round: 12 13 14 15 16 17 18;");
        Check.due("period: the longest", y.period(), 420);
        Check.due("period: by 2 of four", Check.town("streets 4;round by 2: 0 1 2 3;").period(), 2);
        Check.due("period: to and fro", Check.town("streets 3;round: 0 1 2;round back: 0 1 2;").period(), 1);
    }

    private static void asNow() {
        Check.due("asNow: no streets", new MovingNames().asNow(), 1);
        MovingNames x = Check.town(Check.TEN);
        Check.due("asNow: unlike names", x.asNow(), 30);
        x.hang(0, 1);
        Check.due("asNow: two of one name", x.asNow(), 15);
        for (int s = 2; s < 5; s++) x.hang(s, 7);
        Check.due("asNow: three more", x.asNow(), 5);
        for (int s = 5; s < 10; s++) x.hang(s, 8);
        Check.due("asNow: all", x.asNow(), 1);
        MovingNames y = Check.town("streets 6;round: 0 1 2 3 4 5;sign 2 0;sign 4 0;sign 3 1;sign 5 1;");
        Check.due("asNow: by turns", y.asNow(), 2);
        Check.due("asNow: it is no period", y.period(), 6);
        Check.due("asNow: two alike", Check.town("streets 2;round: 0 1;sign 0 1;").asNow(), 1);
    }

    private static void when() {
        MovingNames x = Check.town(Check.TEN);
        Check.row(x, 0, 0);
        Check.due("when: now", x.when(0), 0);
        Check.row(x, 0, 20 * 0 + 1, 20 * 2 + 4, 20 * 5 + 8);
        Check.due("when: three", x.when(0), 23);
        Check.row(x, 0, 20 * 1 + 1, 20 * 4 + 3, 20 * 9 + 8, 20 * 8 + 7);
        Check.due("when: at last", x.when(0), 14);
        Check.row(x, 0, 20 * 1 + 0, 20 * 4 + 3, 20 * 9 + 8);
        Check.due("when: the last of the period", x.when(0), 29);
        Check.row(x, 0, 20 * 0 + 1, 20 * 0 + 0);
        Check.due("when: never", x.when(0), -1);
        Check.row(x, 0, 20 * 0 + 1, 20 * 1 + 1);
        Check.due("when: two names on one street", x.when(0), -1);
        Check.row(x, 0, 20 * 0 + 2);
        Check.due("when: another round", x.when(0), -1);
        x.hang(1, 0);
        Check.row(x, 0, 20 * 0 + 1, 20 * 0 + 0);
        Check.due("when: one name on two streets", x.when(0), 0);
        Check.row(x, 0, 0, 1, 63, 63, 63, 63, 63, 63, 63, 63);
        Check.due("when: ten numbers", x.when(0), 0);
        Check.row(x, 0);
        Check.dueThrow("when: no numbers", Check.ARGUMENT, () -> x.when(0));
        Check.row(x, 0, 0, 0, 0, 0, 0, 0, 0, 0, 0, 0, 0);
        Check.dueThrow("when: eleven", Check.ARGUMENT, () -> x.when(0));
        long[] none = {-1, 10, 19, 200, 400, Long.MAX_VALUE, Long.MIN_VALUE, 1L << 32};
        for (long v : none) {
            Check.row(x, 0, 0, v);
            Check.dueThrow("when: no such " + v, Check.ARGUMENT, () -> x.when(0));
        }
        Check.dueThrow("when(4)", Check.NO_SUCH, () -> x.when(4));
        Check.dueThrow("when(-1)", Check.NO_SUCH, () -> x.when(-1));
        Check.dueThrow("when(1)", Check.STATE, () -> x.when(1));
    }

    private static void follows() {
        MovingNames x = Check.town(Check.SIX);
        Check.due("follows(1, 0)", x.follows(1, 0), 0);
        Check.due("follows(0, 1)", x.follows(0, 1), -1);
        Check.due("follows(0, 2)", x.follows(0, 2), 0);
        Check.due("follows(0, 3)", x.follows(0, 3), -1);
        Check.due("follows(4, 3)", x.follows(4, 3), 0);
        Check.due("follows(3, 4)", x.follows(3, 4), -1);
        MovingNames y = Check.town("streets 2;round: 0 1;");
        Check.due("follows(0, 1) of two", y.follows(0, 1), 0);
        Check.due("follows(1, 0) of two", y.follows(1, 0), 0);
        Check.dueThrow("follows(0, 0)", Check.ARGUMENT, () -> x.follows(0, 0));
        Check.dueThrow("follows(6, 6)", Check.NO_SUCH, () -> x.follows(6, 6));
        Check.dueThrow("follows(0, -1)", Check.NO_SUCH, () -> x.follows(0, -1));
    }

    private static void again() {
        MovingNames x = Check.town(Check.TEN + "sign 7 5;sign 9 5;");
        Check.due("again(0)", x.again(0), 2);
        Check.due("again(3)", x.again(3), 3);
        Check.due("again(6)", x.again(6), 5);
        // 5, 6, 5, 8, 5 hang on 5 to 9: what comes to 7 hangs on 6, then on 5
        Check.due("again(7)", x.again(7), 2);
        Check.due("again(5)", x.again(5), 1);
        Check.due("again(9)", x.again(9), 2);
        Check.dueThrow("again(10)", Check.NO_SUCH, () -> x.again(10));
        Check.dueThrow("again(-1)", Check.NO_SUCH, () -> x.again(-1));
        Check.due("again: out of all rounds", Check.town("streets 2;").again(1), 1);
        StringBuilder twenty = new StringBuilder("streets 20;round:");
        for (int s = 0; s < 20; s++) twenty.append(' ').append(s);
        Check.due("again: twenty", Check.town(twenty + ";").again(3), 20);
    }

    private static void beside() {
        MovingNames x = Check.town(Check.SIX);
        Check.due("beside(0, 1)", x.beside(0, 1), 2);
        Check.due("beside(0, 3)", x.beside(0, 3), 0);
        Check.due("beside(2, 3)", x.beside(2, 3), 1);
        Check.due("beside(3, 2)", x.beside(3, 2), 1);
        MovingNames y = Check.town(Check.TEN);
        // 1 comes to 1 by each second MOVE, 2 to 2 by each third: beside by one of six
        Check.due("beside: of 30", y.beside(1, 2), 5);
        Check.due("beside: of one alone", Check.town("streets 3;").beside(1, 2), 1);
        Check.due("beside: not of one alone", Check.town("streets 3;").beside(0, 2), 0);
        Check.dueThrow("beside(2, 2)", Check.ARGUMENT, () -> x.beside(2, 2));
        Check.dueThrow("beside(6, 6)", Check.NO_SUCH, () -> x.beside(6, 6));
        Check.dueThrow("beside(-1, 0)", Check.NO_SUCH, () -> x.beside(-1, 0));
    }

    private static void visits() {
        MovingNames x = Check.town(Check.SIX + "sign 3 0;");
        Check.due("visits(0, 0)", x.visits(0, 0), 9);
        Check.due("visits(0, 1)", x.visits(0, 1), 1 | 2 | 8 | 16);
        Check.due("visits(0, 2)", x.visits(0, 2), 63);
        Check.due("visits(3, 999)", x.visits(3, 999), 0);
        Check.due("visits(1, 1)", x.visits(1, 1), 2 | 4);
        Check.due("visits(1, 4)", x.visits(1, 4), 7);
        Check.due("visits(1, 999)", x.visits(1, 999), 7);
        x.hang(1, 0);
        Check.due("visits: two signs behind one another", x.visits(0, 1), 7 | 8 | 16);
        x.undo(1);
        Check.dueThrow("visits(6, -1)", Check.NO_SUCH, () -> x.visits(6, -1));
        Check.dueThrow("visits(-1, 0)", Check.NO_SUCH, () -> x.visits(-1, 0));
        Check.dueThrow("visits(0, -1)", Check.ARGUMENT, () -> x.visits(0, -1));
        Check.dueThrow("visits(0, 1000)", Check.ARGUMENT, () -> x.visits(0, 1000));
        StringBuilder twenty = new StringBuilder("streets 20;round:");
        for (int s = 0; s < 20; s++) twenty.append(' ').append(s);
        MovingNames y = Check.town(twenty + ";");
        Check.due("visits: 18 of twenty", y.visits(0, 18), (1 << 19) - 1);
        Check.due("visits: 19 of twenty", y.visits(0, 19), (1 << 20) - 1);
    }

    private static void under() {
        MovingNames x = Check.town(Check.SIX);
        Check.due("under(0, 0)", x.under(0, 0), 1);
        Check.due("under(0, 1)", x.under(0, 1), 5);
        Check.due("under(0, 2)", x.under(0, 2), 7);
        Check.due("under(1, 1)", x.under(1, 1), 16 | 8);
        Check.due("under(1, 999)", x.under(1, 999), 56);
        Check.dueThrow("under(3, -1)", Check.NO_SUCH, () -> x.under(3, -1));
        Check.dueThrow("under(-1, 0)", Check.NO_SUCH, () -> x.under(-1, 0));
        Check.dueThrow("under(0, -1)", Check.ARGUMENT, () -> x.under(0, -1));
        Check.dueThrow("under(0, 1000)", Check.ARGUMENT, () -> x.under(0, 1000));
    }

    private static void dueHome(String call, MovingNames x, int latest, int... nights) {
        Check.due(call, x.home(0, 0), latest);
        for (int k = 0; k < nights.length; k++) Check.due(call + ": letter " + k, x.home(0, 10 + k), nights[k]);
    }

    private static void home() {
        MovingNames x = Check.town(Check.SIX);
        Check.row(x, 0, 20 * 0 + 1);
        dueHome("home: one", x, 1, 1);
        Check.row(x, 0, 1, 1);
        dueHome("home: two of one", x, 4, 1, 4);
        Check.row(x, 0, 0, 1, 2);
        dueHome("home: one a night", x, 2, 0, 1, 2);
        Check.row(x, 0, 2, 1, 0);
        dueHome("home: another order", x, 2, 2, 1, 0);
        Check.row(x, 0, 1, 61);
        dueHome("home: one never", x, -1, -1, -1);
        Check.row(x, 0, 0, 20 * 1 + 1, 20 * 2 + 2, 20 * 3 + 3);
        dueHome("home: all on one night", x, 9, 0, 3, 6, 9);
        Check.row(x, 0, 0, 0, 0, 0, 0, 0, 0, 0);
        dueHome("home: eight", x, 21, 0, 3, 6, 9, 12, 15, 18, 21);
        Check.dueThrow("home: no ninth", Check.ARGUMENT, () -> x.home(0, 18));
        Check.dueThrow("home: what 1", Check.ARGUMENT, () -> x.home(0, 1));
        Check.dueThrow("home: what 9", Check.ARGUMENT, () -> x.home(0, 9));
        Check.dueThrow("home: what -1", Check.ARGUMENT, () -> x.home(0, -1));
        Check.row(x, 0);
        Check.dueThrow("home: no numbers", Check.ARGUMENT, () -> x.home(0, 0));
        Check.row(x, 0, 0, 0, 0, 0, 0, 0, 0, 0, 0);
        Check.dueThrow("home: nine", Check.ARGUMENT, () -> x.home(0, 0));
        long[] none = {-1, 6, 120, 400, Long.MAX_VALUE};
        for (long v : none) {
            Check.row(x, 0, 0, v);
            Check.dueThrow("home: no such " + v, Check.ARGUMENT, () -> x.home(0, 0));
        }
        Check.dueThrow("home(4, 1)", Check.NO_SUCH, () -> x.home(4, 1));
        Check.dueThrow("home(1, 1)", Check.STATE, () -> x.home(1, 1));
    }

    private static void homeOfLikeLetters() {
        MovingNames x = Check.town("streets 4;round: 0 1;sign 3 2;");
        // on streets 2 and 3 hangs 2 on each night; 0 comes to street 1 on the odd ones
        Check.row(x, 0, 20 * 2 + 2, 20 * 2 + 3, 20 * 0 + 1);
        dueHome("home: the first as soon as can be", x, 2, 0, 2, 1);
        Check.row(x, 0, 20 * 2 + 2, 20 * 0 + 0, 20 * 0 + 1);
        dueHome("home: the latest before the first", x, 2, 0, 2, 1);
        Check.row(x, 0, 20 * 2 + 2, 20 * 0 + 0);
        dueHome("home: so the first waits", x, 1, 1, 0);
        Check.row(x, 0, 20 * 2 + 2, 20 * 0 + 0, 20 * 2 + 3, 20 * 0 + 1);
        dueHome("home: all at once", x, 3, 0, 2, 1, 3);
        MovingNames z = Check.town("streets 7;round: 0 1 2;round: 3 4 5;sign 2 0;");
        // 3 comes to street 3 on night 0, 0 to street 0 on nights 0 and 1
        Check.row(z, 0, 20 * 6 + 6, 20 * 3 + 3, 20 * 0 + 0);
        dueHome("home: those that have few nights need them", z, 2, 2, 0, 1);
        MovingNames y = Check.town("streets 20;round: 0 1 2 3 4 5 6 7 8;round: 9 10 11 12 13 14 15;");
        Check.row(y, 0, 20 * 0 + 1, 20 * 0 + 1, 20 * 0 + 1, 20 * 0 + 1, 20 * 0 + 1, 20 * 0 + 1, 20 * 0 + 1);
        dueHome("home: in these 60", y, 55, 1, 10, 19, 28, 37, 46, 55);
        Check.row(y, 0, 20 * 0 + 5, 20 * 0 + 5, 20 * 0 + 5, 20 * 0 + 5, 20 * 0 + 5, 20 * 0 + 5, 20 * 0 + 5);
        dueHome("home: on night 59", y, 59, 5, 14, 23, 32, 41, 50, 59);
        Check.row(y, 0, 20 * 0 + 6, 20 * 0 + 6, 20 * 0 + 6, 20 * 0 + 6, 20 * 0 + 6, 20 * 0 + 6, 20 * 0 + 6);
        dueHome("home: not in these 60", y, -1, -1, -1, -1, -1, -1, -1, -1);
    }

    private static void written() {
        MovingNames x = Check.town(Check.SIX);
        Check.due("written(0, 1, 0)", x.written(0, 1, 0), 33);
        Check.due("written(0, 1, 99)", x.written(0, 1, 99), 0);
        Check.due("written(0, 0, 99)", x.written(0, 0, 99), 1);
        Check.due("written(0, 0, 0)", x.written(0, 0, 0), 34);
        Check.due("written(0, 0, 1)", x.written(0, 0, 1), 33);
        Check.due("written(0, 1, 98)", x.written(0, 1, 98), 1);
        Check.due("written(0, 2, 97)", x.written(0, 2, 97), 1);
        Check.due("written(0, 3, 0)", x.written(0, 3, 0), 0);
        Check.due("written(3, 4, 97)", x.written(3, 4, 97), 1);
        Check.due("written(3, 4, 99)", x.written(3, 4, 99), 0);
        Check.dueThrow("written(0, 1, 100)", Check.ARGUMENT, () -> x.written(0, 1, 100));
        Check.dueThrow("written(0, 1, -1)", Check.ARGUMENT, () -> x.written(0, 1, -1));
        Check.dueThrow("written(6, 1, -1)", Check.NO_SUCH, () -> x.written(6, 1, -1));
        Check.dueThrow("written(0, 6, -1)", Check.NO_SUCH, () -> x.written(0, 6, -1));
        MovingNames y = Check.town("streets 2;");
        Check.due("written: all", y.written(1, 1, 0), 100);
    }

    private static void served() {
        MovingNames x = Check.town(Check.SIX);
        Check.due("served(0, 0, 0)", x.served(0, 0, 0), 34);
        Check.due("served(0, 2, 0)", x.served(0, 2, 0), 33);
        Check.due("served(0, 0, 1)", x.served(0, 0, 1), 0);
        Check.due("served(0, 2, 1)", x.served(0, 2, 1), 1);
        Check.due("served(0, 1, 1)", x.served(0, 1, 1), 2);
        Check.due("served(1, 3, 1)", x.served(1, 3, 1), 1);
        Check.due("served(0, 3, 0)", x.served(0, 3, 0), 0);
        Check.due("served(0, 3, 1)", x.served(0, 3, 1), -1);
        Check.dueThrow("served(0, 2, 2)", Check.ARGUMENT, () -> x.served(0, 2, 2));
        Check.dueThrow("served(0, 2, -1)", Check.ARGUMENT, () -> x.served(0, 2, -1));
        Check.dueThrow("served(3, 2, 9)", Check.NO_SUCH, () -> x.served(3, 2, 9));
        Check.dueThrow("served(0, 6, 9)", Check.NO_SUCH, () -> x.served(0, 6, 9));
    }

    private static void findsIn() {
        MovingNames x = Check.town(Check.SIX + "sign 3 2;");
        Check.due("findsIn(2, 1, 0)", x.findsIn(2, 1, 0), 0);
        Check.due("findsIn(2, 1, 1)", x.findsIn(2, 1, 1), 3);
        Check.due("findsIn(2, 2, 1)", x.findsIn(2, 2, 1), 4);
        Check.due("findsIn(1, 1, -1)", x.findsIn(1, 1, -1), 1);
        Check.due("findsIn(4, 1, 9999)", x.findsIn(4, 1, 9999), 2);
        Check.due("findsIn(4, 1, -9999)", x.findsIn(4, 1, -9999), 2);
        Check.due("findsIn(4, 1, 9998)", x.findsIn(4, 1, 9998), 0);
        Check.dueThrow("findsIn(6, 0, 0)", Check.NO_SUCH, () -> x.findsIn(6, 0, 0));
        Check.dueThrow("findsIn(0, 0, 0)", Check.ARGUMENT, () -> x.findsIn(0, 0, 0));
        Check.dueThrow("findsIn(0, 6, 0)", Check.ARGUMENT, () -> x.findsIn(0, 6, 0));
        Check.dueThrow("findsIn(0, 1, 10000)", Check.ARGUMENT, () -> x.findsIn(0, 1, 10000));
        Check.dueThrow("findsIn(0, 1, -10000)", Check.ARGUMENT, () -> x.findsIn(0, 1, -10000));
    }
}
