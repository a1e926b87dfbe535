/** Promises 12 to 25: nights, signs, rounds, people, undone; told deeds and months. */
public final class DeedTest {
    public static void main(String[] args) {
        nights();
        rests();
        movesIn();
        nightsFor();
        hang();
        change();
        letIn();
        takeOut();
        blind();
        moves();
        undo();
        undoOfEach();
        judge();
        perform();
        month();
        Check.end("DeedTest");
    }

    private static void nights() {
        MovingNames x = Check.town("streets 3;round: 0 1 2;rest week=2;");
        Check.due("nights(1)", x.nights(1), 1);
        Check.dueNames("nights(1)", x, 2, 0, 1);
        Check.due("nights(2)", x.nights(2), 1);
        Check.dueNames("nights(2)", x, 1, 2, 0);
        Check.due("nights: day", x.count(5), 3);
        Check.due("nights: moved", x.count(6), 2);
        Check.due("nights(99)", x.nights(99), 85);
        Check.due("nights: day", x.count(5), 102);
        Check.due("nights: moved", x.count(6), 87);
        Check.dueNames("nights(99)", x, 0, 1, 2);
        Check.due("nights: a deed each call", x.count(9), 3);
        Check.dueThrow("nights(0)", Check.ARGUMENT, () -> x.nights(0));
        Check.dueThrow("nights(100)", Check.ARGUMENT, () -> x.nights(100));
        Check.dueThrow("nights(-1)", Check.ARGUMENT, () -> x.nights(-1));
        Check.due("nights: a throw leaves all", x.count(5), 102);
        MovingNames y = Check.town("streets 3;round back by 4: 0 1 2;round: 0 2;");
        y.nights(1);
        // back by 4 of three is back by 1: 0 to 2, 1 to 0, 2 to 1; then 0 and 2 change
        Check.dueNames("nights: back, shared", y, 0, 2, 1);
        MovingNames z = new MovingNames();
        Check.due("nights: no streets", z.nights(3), 3);
    }

    private static void rests() {
        MovingNames x = Check.town("streets 2;rest wrong>0;");
        Check.due("rests: none wrong", x.rests(), false);
        x.hang(0, 1);
        Check.due("rests: two wrong", x.rests(), true);
        Check.due("rests: so it does", x.nights(1), 0);
        Check.due("rests: moves none", x.movesIn(1), 0);
        x.hang(1, 0);
        Check.due("rests: no more", x.rests(), false);
        Check.due("rests: leaves the day", x.count(5), 1);
        Check.due("rests: no streets", new MovingNames().rests(), false);
    }

    private static void movesIn() {
        MovingNames x = Check.town("streets 2;round: 0 1;rest week=6 or moved>999 or moved=7 and day<20;");
        Check.due("movesIn(0)", x.movesIn(0), 0);
        Check.due("movesIn(6)", x.movesIn(6), 6);
        Check.due("movesIn(7)", x.movesIn(7), 6);
        Check.due("movesIn(8)", x.movesIn(8), 7);
        Check.due("movesIn(20)", x.movesIn(20), 7);
        Check.due("movesIn(22)", x.movesIn(22), 8);
        Check.due("movesIn(999)", x.movesIn(999), 7 + 979 - 140);
        Check.due("movesIn leaves the day", x.count(5), 0);
        x.nights(5);
        Check.due("movesIn from later on", x.movesIn(3), 2);
        Check.dueThrow("movesIn(-1)", Check.ARGUMENT, () -> x.movesIn(-1));
        Check.dueThrow("movesIn(1000)", Check.ARGUMENT, () -> x.movesIn(1000));
    }

    private static void nightsFor() {
        MovingNames x = Check.town("streets 2;round: 0 1;rest week=6;");
        Check.due("nightsFor(0)", x.nightsFor(0), 0);
        Check.due("nightsFor(6)", x.nightsFor(6), 6);
        Check.due("nightsFor(7)", x.nightsFor(7), 8);
        Check.due("nightsFor(857)", x.nightsFor(857), 999);
        Check.due("nightsFor(858)", x.nightsFor(858), -1);
        x.nights(6);
        Check.due("nightsFor: from now on", x.nightsFor(1), 2);
        MovingNames w = Check.town("streets 2;rest moved=4 and day<9;");
        Check.due("nightsFor: by moved", w.nightsFor(5), 10);
        Check.dueThrow("nightsFor(-1)", Check.ARGUMENT, () -> x.nightsFor(-1));
        Check.dueThrow("nightsFor(1000)", Check.ARGUMENT, () -> x.nightsFor(1000));
        MovingNames y = Check.town("streets 2;");
        Check.due("nightsFor(999)", y.nightsFor(999), 999);
        MovingNames z = Check.town("streets 2;rest 1=1;");
        Check.due("nightsFor(1): never", z.nightsFor(1), -1);
        Check.due("nightsFor(0): now", z.nightsFor(0), 0);
    }

    private static void hang() {
        MovingNames x = Check.town("streets 3;");
        Check.due("hang(0, 2)", x.hang(0, 2), 0);
        Check.due("hang(0, 1)", x.hang(0, 1), 2);
        Check.due("hang(0, 1) again", x.hang(0, 1), 1);
        Check.dueNames("hang", x, 1, 1, 2);
        Check.due("hang: deeds", x.count(9), 3);
        Check.dueThrow("hang(3, 0)", Check.NO_SUCH, () -> x.hang(3, 0));
        Check.dueThrow("hang(-1, 0)", Check.NO_SUCH, () -> x.hang(-1, 0));
        Check.dueThrow("hang(0, 3)", Check.NO_SUCH, () -> x.hang(0, 3));
        Check.dueThrow("hang(0, -1)", Check.NO_SUCH, () -> x.hang(0, -1));
        Check.due("hang: throws are no deeds", x.count(9), 3);
    }

    private static void change() {
        MovingNames x = Check.town("streets 4;");
        Check.due("change(0, 3)", x.change(0, 3), 0);
        Check.dueNames("change", x, 3, 1, 2, 0);
        x.hang(1, 3);
        x.hang(2, 3);
        Check.due("change(2, 3)", x.change(2, 3), 3);
        Check.dueNames("change again", x, 3, 3, 0, 3);
        Check.due("change: deeds", x.count(9), 4);
        Check.dueThrow("change(1, 1)", Check.ARGUMENT, () -> x.change(1, 1));
        Check.dueThrow("change(4, 4)", Check.NO_SUCH, () -> x.change(4, 4));
        Check.dueThrow("change(0, 4)", Check.NO_SUCH, () -> x.change(0, 4));
        Check.dueThrow("change(-1, 0)", Check.NO_SUCH, () -> x.change(-1, 0));
        Check.due("change: throws are no deeds", x.count(9), 4);
    }

    private static void letIn() {
        MovingNames x = Check.town("streets 5;round: 0 1 2;round: 4;");
        Check.due("letIn(3, 0, 1)", x.letIn(3, 0, 1), 4);
        int[] first = {0, 3, 1, 2, -1};
        for (int k = 0; k < first.length; k++) Check.due("letIn: place " + k, x.round(0, 10 + k), first[k]);
        Check.due("letIn(4, 0, 4)", x.letIn(4, 0, 4), 5);
        Check.due("letIn: the last", x.round(0, 14), 4);
        Check.due("letIn(0, 1, 0)", x.letIn(0, 1, 0), 2);
        Check.due("letIn: the first", x.round(1, 10), 0);
        Check.due("letIn: the one behind", x.round(1, 11), 4);
        Check.due("letIn: deeds", x.count(9), 3);
        Check.dueThrow("letIn(5, 9, 9)", Check.NO_SUCH, () -> x.letIn(5, 0, 9));
        Check.dueThrow("letIn(0, 2, 0)", Check.NO_SUCH, () -> x.letIn(0, 2, 0));
        Check.dueThrow("letIn(0, -1, 0)", Check.NO_SUCH, () -> x.letIn(0, -1, 0));
        Check.dueThrow("letIn(0, 0, 99)", Check.STATE, () -> x.letIn(0, 0, 99));
        Check.dueThrow("letIn(1, 1, 3)", Check.ARGUMENT, () -> x.letIn(1, 1, 3));
        Check.dueThrow("letIn(1, 1, -1)", Check.ARGUMENT, () -> x.letIn(1, 1, -1));
        Check.due("letIn: throws are no deeds", x.count(9), 3);
        MovingNames y = Check.town("streets 20;round: 5;");
        for (int s = 0; s < 20; s++) if (s != 5) y.letIn(s, 0, 0);
        Check.due("letIn: twenty", y.round(0, 0), 20);
        Check.due("letIn: the latest first", y.round(0, 10), 19);
        Check.due("letIn: the eldest last", y.round(0, 29), 5);
        y.nights(1);
        Check.due("letIn: it goes on along them", y.street(18, 0), 19);
    }

    private static void takeOut() {
        MovingNames x = Check.town("streets 5;round: 3 1 4;round: 4;");
        Check.due("takeOut(1, 0)", x.takeOut(1, 0), 2);
        Check.due("takeOut: what is behind comes up", x.round(0, 11), 4);
        Check.due("takeOut: no third", x.round(0, 12), -1);
        Check.due("takeOut: the sign goes on", x.goesTo(3, 1), 4);
        Check.due("takeOut: the other round stays", x.street(4, 2), 3);
        Check.due("takeOut(4, 1)", x.takeOut(4, 1), 0);
        Check.due("takeOut: an empty round", x.round(1, 10), -1);
        Check.due("takeOut: it still is one", x.count(2), 2);
        Check.due("takeOut: an empty round moves", x.nights(1), 1);
        Check.due("takeOut: deeds", x.count(9), 3);
        Check.dueThrow("takeOut(1, 0) again", Check.STATE, () -> x.takeOut(1, 0));
        Check.dueThrow("takeOut(5, 0)", Check.NO_SUCH, () -> x.takeOut(5, 0));
        Check.dueThrow("takeOut(0, 2)", Check.NO_SUCH, () -> x.takeOut(0, 2));
        Check.due("takeOut: throws are no deeds", x.count(9), 3);
        Check.due("letIn to an empty round", x.letIn(0, 1, 0), 1);
    }

    private static void blind() {
        MovingNames x = Check.town("streets 4;round: 0 1 2 3;blind 2;");
        Check.due("blind(1)", x.blind(1), 1);
        Check.due("blind: how many", x.count(7), 2);
        x.nights(1);
        Check.dueNames("blind: skipped", x, 3, 1, 2, 0);
        Check.due("blind(2)", x.blind(2), 0);
        x.nights(1);
        Check.dueNames("blind: no more", x, 0, 1, 3, 2);
        x.blind(0);
        x.blind(2);
        x.blind(3);
        Check.due("blind: all", x.count(7), 4);
        x.nights(1);
        Check.dueNames("blind: all of them", x, 0, 1, 3, 2);
        Check.due("blind: deeds", x.count(9), 8);
        Check.dueThrow("blind(4)", Check.NO_SUCH, () -> x.blind(4));
        Check.dueThrow("blind(-1)", Check.NO_SUCH, () -> x.blind(-1));
    }

    private static void moves() {
        MovingNames x = Check.town(Check.SIX + "sign 5 4;");
        Check.due("moves(0, 5, 3)", x.moves(0, 5, 3), 4);
        Check.due("moves: the street", x.person(0, 0), 5);
        Check.due("moves: the house", x.person(0, 1), 3);
        Check.due("moves: the address", x.finds(4, 3), 1);
        Check.due("moves(0, 5, 5)", x.moves(0, 5, 5), 4);
        Check.due("moves: deeds", x.count(9), 2);
        Check.dueThrow("moves(3, 0, 9)", Check.NO_SUCH, () -> x.moves(3, 0, 9));
        Check.dueThrow("moves(0, 6, 9)", Check.NO_SUCH, () -> x.moves(0, 6, 9));
        Check.dueThrow("moves(0, 0, 0)", Check.ARGUMENT, () -> x.moves(0, 0, 0));
        Check.dueThrow("moves(0, 0, 6)", Check.ARGUMENT, () -> x.moves(0, 0, 6));
        Check.due("moves: throws are no deeds", x.count(9), 2);
    }

    private static void undo() {
        MovingNames x = Check.town("streets 20;");
        Check.dueThrow("undo(1): none", Check.ARGUMENT, () -> x.undo(1));
        for (int n = 1; n <= 12; n++) x.hang(0, n);
        Check.due("undo: ten at most", x.count(9), 10);
        Check.dueThrow("undo(0)", Check.ARGUMENT, () -> x.undo(0));
        Check.dueThrow("undo(-1)", Check.ARGUMENT, () -> x.undo(-1));
        Check.dueThrow("undo(11)", Check.ARGUMENT, () -> x.undo(11));
        Check.due("undo(1)", x.undo(1), 9);
        Check.due("undo: the latest first", x.street(0, 0), 11);
        Check.due("undo(3)", x.undo(3), 6);
        Check.due("undo: three", x.street(0, 0), 8);
        Check.dueThrow("undo(7)", Check.ARGUMENT, () -> x.undo(7));
        Check.due("undo: a throw leaves all", x.street(0, 0), 8);
        Check.due("undo(6)", x.undo(6), 0);
        Check.due("undo: the eldest are forgotten", x.street(0, 0), 2);
        for (int n = 0; n < 11; n++) x.hang(1, n);
        Check.due("undo(10)", x.undo(10), 0);
        Check.due("undo: ten", x.street(1, 0), 0);
    }

    private static void undoOfEach() {
        MovingNames x = Check.town("streets 5;round: 0 1 2;round back: 3 4;person 1 1;blind 2;rest week=3;");
        x.nights(5);
        x.letIn(4, 0, 1);
        x.nights(2);
        x.takeOut(1, 0);
        x.blind(2);
        x.nights(1);
        x.moves(0, 3, 9);
        x.change(0, 4);
        x.hang(2, 2);
        x.blind(0);
        Check.due("undo: blind", x.undo(1), 9);
        Check.due("undo: not blind", x.street(0, 1), 0);
        x.undo(2);
        x.undo(1);
        Check.due("undo: the person's street", x.person(0, 0), 1);
        Check.due("undo: the person's house", x.person(0, 1), 1);
        x.undo(1);
        Check.due("undo: the day", x.count(5), 7);
        Check.due("undo: moved", x.count(6), 6);
        x.undo(1);
        Check.due("undo: blind again", x.street(2, 1), 1);
        x.undo(1);
        int[] first = {0, 4, 1, 2, -1};
        for (int k = 0; k < first.length; k++) Check.due("undo: place " + k, x.round(0, 10 + k), first[k]);
        x.undo(2);
        Check.due("undo: taken out again", x.round(0, 11), 1);
        Check.due("undo: the day of the first", x.count(5), 5);
        Check.due("undo: moved of the first", x.count(6), 4);
        Check.dueNames("undo: the names of the first", x, 0, 1, 2, 3, 4);
        x.nights(1);
        x.undo(2);
        Check.due("undo: nights of one call together", x.count(5), 0);
        Check.due("undo: all", x.count(9), 0);
        Check.dueNames("undo: all", x, 0, 1, 2, 3, 4);
    }

    private static void dueJudged(MovingNames x, int place, int why, int moved, int wrong) {
        Check.due("judge(0, 0)", x.judge(0, 0), place);
        Check.due("judge(0, 1)", x.judge(0, 1), why);
        Check.due("judge(0, 2)", x.judge(0, 2), moved);
        Check.due("judge(0, 3)", x.judge(0, 3), wrong);
    }

    private static void judge() {
        MovingNames x = Check.town("streets 6;round: 0 1 2;rest day=1;");
        Check.row(x, 0);
        dueJudged(x, -1, 0, 0, 0);
        Check.row(x, 0, -1, -1, -1, 60, 420);
        dueJudged(x, -1, 0, 2, 2);
        Check.row(x, 0, 105, 500, 405);
        dueJudged(x, -1, 0, 0, 0);
        Check.row(x, 0, 60, -1, 421, -1);
        dueJudged(x, 2, 2, 1, 2);
        long[] none = {6, 120, 399, 800, -2, 406, 520, 799, 1L << 40, Long.MIN_VALUE};
        for (long v : none) {
            Check.row(x, 0, -1, v, 60);
            dueJudged(x, 1, 1, 1, 0);
        }
        Check.due("judge: nothing is done", x.count(5), 0);
        Check.due("judge: no deeds", x.count(9), 0);
        Check.dueNames("judge: no signs", x, 0, 1, 2, 3, 4, 5);
        Check.dueThrow("judge(4, 9)", Check.NO_SUCH, () -> x.judge(4, 9));
        Check.dueThrow("judge(-1, 0)", Check.NO_SUCH, () -> x.judge(-1, 0));
        Check.dueThrow("judge(1, 9)", Check.STATE, () -> x.judge(1, 9));
        Check.dueThrow("judge(0, 4)", Check.ARGUMENT, () -> x.judge(0, 4));
        Check.dueThrow("judge(0, -1)", Check.ARGUMENT, () -> x.judge(0, -1));
        MovingNames y = Check.town("streets 20;");
        Check.row(y, 0, 399, 399, 400 + 399);
        dueJudged(y, 2, 2, 0, 0);
        MovingNames z = new MovingNames();
        Check.row(z, 0, -1, 0);
        dueJudged(z, 1, 1, 1, 0);
    }

    private static void perform() {
        MovingNames x = Check.town("streets 6;round: 0 1 2;");
        Check.row(x, 0, 60, 401 + 40, -1, 421, -1);
        Check.due("perform(0)", x.perform(0), 3);
        // 3 hangs on 0; streets 1 and 2 change; then all go on by one
        Check.dueNames("perform", x, 1, 3, 2, 3, 4, 5);
        Check.due("perform: each a deed", x.count(9), 3);
        Check.due("perform: day", x.count(5), 1);
        x.undo(1);
        Check.dueNames("perform: undone", x, 3, 2, 1, 3, 4, 5);
        Check.row(x, 0);
        Check.due("perform: none told", x.perform(0), 0);
        Check.row(x, 0, -1, -1);
        Check.due("perform: all", x.perform(0), 2);
        Check.row(x, 0, 800, -1);
        Check.due("perform: not the first", x.perform(0), 0);
        Check.dueThrow("perform(4)", Check.NO_SUCH, () -> x.perform(4));
        Check.dueThrow("perform(-1)", Check.NO_SUCH, () -> x.perform(-1));
        Check.dueThrow("perform(3)", Check.STATE, () -> x.perform(3));
    }

    /** The month's deeds from the draws, done by the calls of the face. */
    private static int slowMonth(MovingNames x, int seed, int times) {
        int drawn = seed;
        int done = 0;
        for (int i = 0; i < times; i++) {
            drawn = 1103515245 * drawn + 12345;
            int kind = (drawn >>> 16) % 4;
            if (kind < 2) {
                x.nights(1);
                done++;
                continue;
            }
            drawn = 1103515245 * drawn + 12345;
            int a = (drawn >>> 16) % x.count(1);
            drawn = 1103515245 * drawn + 12345;
            int b = (drawn >>> 16) % x.count(1);
            if (kind == 2) {
                x.hang(a, b);
                done++;
            } else if (a != b) {
                x.change(a, b);
                done++;
            }
        }
        return done;
    }

    private static void month() {
        int less = 0;
        for (int seed = -3; seed < 4; seed++) {
            MovingNames x = Check.town("streets 3;round: 0 1 2;rest week=2;");
            MovingNames y = Check.town("streets 3;round: 0 1 2;rest week=2;");
            int done = slowMonth(y, 1234567 * seed, 30);
            less += 30 - done;
            Check.due("month(" + seed + ")", x.month(1234567 * seed, 30), done);
            Check.dueNames("month", x, y.street(0, 0), y.street(1, 0), y.street(2, 0));
            Check.due("month: day", x.count(5), y.count(5));
            Check.due("month: moved", x.count(6), y.count(6));
            Check.due("month: deeds", x.count(9), 10);
            x.undo(7);
            y.undo(7);
            Check.dueNames("month: undone", x, y.street(0, 0), y.street(1, 0), y.street(2, 0));
            Check.due("month: one more", x.month(seed, 1), slowMonth(y, seed, 1));
            Check.dueNames("month: one more", x, y.street(0, 0), y.street(1, 0), y.street(2, 0));
        }
        Check.due("month: some can't be", less > 0, true);
        MovingNames z = new MovingNames();
        Check.dueThrow("month(1, 0)", Check.ARGUMENT, () -> z.month(1, 0));
        Check.dueThrow("month(1, 31)", Check.ARGUMENT, () -> z.month(1, 31));
        Check.dueThrow("month(1, 1)", Check.STATE, () -> z.month(1, 1));
    }
}
