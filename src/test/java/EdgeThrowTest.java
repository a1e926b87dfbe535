/**
 * Refused calls, promise by promise: each throws what the document says, the one that is told first
 * of several, and changes nothing.
 */
public final class EdgeThrowTest {
    private static final int LEAST = Integer.MIN_VALUE;
    private static final int MOST = Integer.MAX_VALUE;

    public static void main(String[] args) {
        townAndTape();
        streetsAndRounds();
        peopleAndNames();
        movesAhead();
        nights();
        signs();
        rounds();
        people();
        undo();
        toldDeeds();
        months();
        whenSignsHang();
        visitsAndUnder();
        letters();
        maps();
        errorsInkChanges();
        trays();
        images();
        withoutStreets();
        Check.end("EdgeThrowTest");
    }

    /** Six streets, three deeds, a FAULT, a tape of 20 bytes, TRAYS 0 to 2 (3 is MISSING), IMAGE 1. */
    private static MovingNames busyTown() {
        MovingNames x = Check.town(Check.SIX + "blind 2;rest day=2;");
        Check.tell(x, "streets 2;blind 2;");
        Check.feed(x, "streets 3;");
        Check.row(x, 0, 0, 1, 2, 3, 4, 5);
        Check.row(x, 1, 105, 0);
        x.tray(2, 0, 0);
        x.image(1);
        x.nights(3);
        x.hang(0, 5);
        x.change(1, 4);
        return x;
    }

    private static String all(MovingNames x) {
        return Check.seen(x) + " trays " + x.ink(0) + ' ' + x.judge(0, 0) + ' ' + x.errors(0, 2) + ' ' + x.judge(1, 0)
            + ' ' + x.home(1, 0) + ' ' + x.copy(2);
    }

    private static void refused(String call, Class<? extends RuntimeException> want, Check.Call act) {
        MovingNames x = busyTown();
        String before = all(x);
        Check.dueThrow(call, want, () -> act.on(x));
        Check.dueText(call + " changes nothing", all(x), before);
        Check.dueThrow(call + ": TRAY 3 stays", Check.STATE, () -> x.copy(3));
        Check.dueThrow(call + ": IMAGE 0 stays", Check.STATE, () -> x.restore(0));
        x.restore(1);
        Check.due(call + ": IMAGE 1 stays", x.count(9) + x.street(0, 0), 0);
    }

    private static void noSuch(String call, Check.Call act) {
        refused(call, Check.NO_SUCH, act);
    }

    private static void argument(String call, Check.Call act) {
        refused(call, Check.ARGUMENT, act);
    }

    private static void state(String call, Check.Call act) {
        refused(call, Check.STATE, act);
    }

    private static void townAndTape() {
        Check.says("3: n is below 0 or above what it has");
        argument("town(-1)", x -> x.town(-1));
        argument("town(21)", x -> x.town(21));
        argument("town(900)", x -> x.town(900));
        argument("town(least)", x -> x.town(LEAST));
        argument("town(most)", x -> x.town(MOST));
        Check.says("2: NONE, and nothing changes, if there would be more than 900");
        MovingNames y = busyTown();
        for (int i = 0; i < 44; i++) y.feed(0x20202020, 0x20202020, 0x20202020, 0x20202020, 0x20202020);
        String before = all(y);
        Check.due("feed", y.feed(1, 2, 3, 4, 5), -1);
        Check.dueText("feed", all(y), before);
        Check.due("the first bytes stay", y.town(10), 1);
    }

    private static void streetsAndRounds() {
        Check.says("5: no such STREET; another what");
        noSuch("street(-1, 0)", x -> x.street(-1, 0));
        noSuch("street(6, 0)", x -> x.street(6, 0));
        noSuch("street(6, 5)", x -> x.street(6, 5));
        noSuch("street(least, 0)", x -> x.street(LEAST, 0));
        noSuch("street(most, -1)", x -> x.street(MOST, -1));
        argument("street(0, -1)", x -> x.street(0, -1));
        argument("street(5, 5)", x -> x.street(5, 5));
        argument("street(0, most)", x -> x.street(0, MOST));
        argument("street(0, least)", x -> x.street(0, LEAST));
        Check.says("6: no such ROUND; another what (10 to 29)");
        noSuch("round(-1, 0)", x -> x.round(-1, 0));
        noSuch("round(2, 0)", x -> x.round(2, 0));
        noSuch("round(2, 3)", x -> x.round(2, 3));
        noSuch("round(most, 30)", x -> x.round(MOST, 30));
        argument("round(0, -1)", x -> x.round(0, -1));
        argument("round(0, 3)", x -> x.round(0, 3));
        argument("round(1, 9)", x -> x.round(1, 9));
        argument("round(1, 30)", x -> x.round(1, 30));
        argument("round(0, least)", x -> x.round(0, LEAST));
        argument("round(0, most)", x -> x.round(0, MOST));
    }

    private static void peopleAndNames() {
        Check.says("7: no such PERSON; another what");
        noSuch("person(-1, 0)", x -> x.person(-1, 0));
        noSuch("person(3, 0)", x -> x.person(3, 0));
        noSuch("person(3, 3)", x -> x.person(3, 3));
        noSuch("person(least, 0)", x -> x.person(LEAST, 0));
        argument("person(0, -1)", x -> x.person(0, -1));
        argument("person(2, 3)", x -> x.person(2, 3));
        argument("person(2, most)", x -> x.person(2, MOST));
        Check.says("8: no such NAME");
        noSuch("where(-1)", x -> x.where(-1));
        noSuch("where(6)", x -> x.where(6));
        noSuch("where(least)", x -> x.where(LEAST));
        noSuch("where(most)", x -> x.where(MOST));
        Check.says("9: no such NAME; no such HOUSE");
        noSuch("finds(-1, 1)", x -> x.finds(-1, 1));
        noSuch("finds(6, 1)", x -> x.finds(6, 1));
        noSuch("finds(6, 0)", x -> x.finds(6, 0));
        noSuch("finds(-1, 6)", x -> x.finds(-1, 6));
        argument("finds(0, 0)", x -> x.finds(0, 0));
        argument("finds(5, 6)", x -> x.finds(5, 6));
        argument("finds(0, -1)", x -> x.finds(0, -1));
        argument("finds(0, least)", x -> x.finds(0, LEAST));
        argument("finds(0, most)", x -> x.finds(0, MOST));
    }

    private static void movesAhead() {
        Check.says("10: n (-9999 to 9999)");
        noSuch("nameIn(-1, 0)", x -> x.nameIn(-1, 0));
        noSuch("nameIn(6, 0)", x -> x.nameIn(6, 0));
        noSuch("nameIn(6, 10000)", x -> x.nameIn(6, 10000));
        argument("nameIn(0, 10000)", x -> x.nameIn(0, 10000));
        argument("nameIn(5, -10000)", x -> x.nameIn(5, -10000));
        argument("nameIn(0, least)", x -> x.nameIn(0, LEAST));
        argument("nameIn(0, most)", x -> x.nameIn(0, MOST));
        Check.says("11: goesTo throws as nameIn does");
        noSuch("goesTo(-1, 0)", x -> x.goesTo(-1, 0));
        noSuch("goesTo(6, 0)", x -> x.goesTo(6, 0));
        noSuch("goesTo(6, -10000)", x -> x.goesTo(6, -10000));
        argument("goesTo(0, 10000)", x -> x.goesTo(0, 10000));
        argument("goesTo(5, -10000)", x -> x.goesTo(5, -10000));
        argument("goesTo(0, least)", x -> x.goesTo(0, LEAST));
        argument("goesTo(0, most)", x -> x.goesTo(0, MOST));
        Check.says("37: no such NAME; no such HOUSE, n");
        noSuch("findsIn(-1, 1, 0)", x -> x.findsIn(-1, 1, 0));
        noSuch("findsIn(6, 1, 0)", x -> x.findsIn(6, 1, 0));
        noSuch("findsIn(6, 0, 0)", x -> x.findsIn(6, 0, 0));
        noSuch("findsIn(6, 1, 10000)", x -> x.findsIn(6, 1, 10000));
        argument("findsIn(0, 0, 0)", x -> x.findsIn(0, 0, 0));
        argument("findsIn(0, 6, 0)", x -> x.findsIn(0, 6, 0));
        argument("findsIn(0, 1, 10000)", x -> x.findsIn(0, 1, 10000));
        argument("findsIn(0, 1, -10000)", x -> x.findsIn(0, 1, -10000));
        argument("findsIn(0, 1, least)", x -> x.findsIn(0, 1, LEAST));
    }

    private static void nights() {
        Check.says("12: n NIGHTS (1 to 99)");
        argument("nights(0)", x -> x.nights(0));
        argument("nights(100)", x -> x.nights(100));
        argument("nights(-1)", x -> x.nights(-1));
        argument("nights(least)", x -> x.nights(LEAST));
        argument("nights(most)", x -> x.nights(MOST));
        Check.says("14: the n (0 to 999) NIGHTS to come");
        argument("movesIn(-1)", x -> x.movesIn(-1));
        argument("movesIn(1000)", x -> x.movesIn(1000));
        argument("movesIn(least)", x -> x.movesIn(LEAST));
        argument("movesIn(most)", x -> x.movesIn(MOST));
        Check.says("15: MOVED n times (0 to 999)");
        argument("nightsFor(-1)", x -> x.nightsFor(-1));
        argument("nightsFor(1000)", x -> x.nightsFor(1000));
        argument("nightsFor(least)", x -> x.nightsFor(LEAST));
        argument("nightsFor(most)", x -> x.nightsFor(MOST));
    }

    private static void signs() {
        Check.says("16: no such STREET, NAME");
        noSuch("hang(-1, 0)", x -> x.hang(-1, 0));
        noSuch("hang(6, 0)", x -> x.hang(6, 0));
        noSuch("hang(0, -1)", x -> x.hang(0, -1));
        noSuch("hang(0, 6)", x -> x.hang(0, 6));
        noSuch("hang(least, most)", x -> x.hang(LEAST, MOST));
        noSuch("hang(5, most)", x -> x.hang(5, MOST));
        Check.says("17: no such STREET; both one");
        noSuch("change(-1, 0)", x -> x.change(-1, 0));
        noSuch("change(0, -1)", x -> x.change(0, -1));
        noSuch("change(6, 0)", x -> x.change(6, 0));
        noSuch("change(0, 6)", x -> x.change(0, 6));
        noSuch("change(6, 6)", x -> x.change(6, 6));
        noSuch("change(-1, -1)", x -> x.change(-1, -1));
        argument("change(0, 0)", x -> x.change(0, 0));
        argument("change(5, 5)", x -> x.change(5, 5));
    }

    private static void rounds() {
        Check.says("18: no such STREET, ROUND; it is in it; no such place (0 to how many it has)");
        noSuch("letIn(-1, 0, 0)", x -> x.letIn(-1, 0, 0));
        noSuch("letIn(6, 0, 0)", x -> x.letIn(6, 0, 0));
        noSuch("letIn(3, -1, 0)", x -> x.letIn(3, -1, 0));
        noSuch("letIn(3, 2, 0)", x -> x.letIn(3, 2, 0));
        noSuch("letIn(0, 2, 9)", x -> x.letIn(0, 2, 9));
        noSuch("letIn(6, 0, 9)", x -> x.letIn(6, 0, 9));
        state("letIn(0, 0, 0)", x -> x.letIn(0, 0, 0));
        state("letIn(2, 0, 3)", x -> x.letIn(2, 0, 3));
        state("letIn(1, 0, -1)", x -> x.letIn(1, 0, -1));
        state("letIn(5, 1, 4)", x -> x.letIn(5, 1, 4));
        argument("letIn(3, 0, -1)", x -> x.letIn(3, 0, -1));
        argument("letIn(3, 0, 4)", x -> x.letIn(3, 0, 4));
        argument("letIn(0, 1, most)", x -> x.letIn(0, 1, MOST));
        argument("letIn(0, 1, least)", x -> x.letIn(0, 1, LEAST));
        Check.says("19: no such STREET, ROUND; it isn't in it");
        noSuch("takeOut(-1, 0)", x -> x.takeOut(-1, 0));
        noSuch("takeOut(6, 0)", x -> x.takeOut(6, 0));
        noSuch("takeOut(0, -1)", x -> x.takeOut(0, -1));
        noSuch("takeOut(0, 2)", x -> x.takeOut(0, 2));
        state("takeOut(3, 0)", x -> x.takeOut(3, 0));
        state("takeOut(0, 1)", x -> x.takeOut(0, 1));
        Check.says("20: no such STREET");
        noSuch("blind(-1)", x -> x.blind(-1));
        noSuch("blind(6)", x -> x.blind(6));
        noSuch("blind(32)", x -> x.blind(32));
        noSuch("blind(least)", x -> x.blind(LEAST));
    }

    private static void people() {
        Check.says("21: no such PERSON, STREET; no such HOUSE");
        noSuch("moves(-1, 0, 1)", x -> x.moves(-1, 0, 1));
        noSuch("moves(3, 0, 1)", x -> x.moves(3, 0, 1));
        noSuch("moves(0, -1, 1)", x -> x.moves(0, -1, 1));
        noSuch("moves(0, 6, 1)", x -> x.moves(0, 6, 1));
        noSuch("moves(3, 0, 0)", x -> x.moves(3, 0, 0));
        noSuch("moves(0, 6, 6)", x -> x.moves(0, 6, 6));
        argument("moves(0, 0, 0)", x -> x.moves(0, 0, 0));
        argument("moves(2, 5, 6)", x -> x.moves(2, 5, 6));
        argument("moves(2, 5, -1)", x -> x.moves(2, 5, -1));
        argument("moves(2, 5, most)", x -> x.moves(2, 5, MOST));
    }

    private static void undo() {
        Check.says("22: n isn't 1 to 10, there aren't so many");
        argument("undo(0)", x -> x.undo(0));
        argument("undo(-1)", x -> x.undo(-1));
        argument("undo(4) of three", x -> x.undo(4));
        argument("undo(10) of three", x -> x.undo(10));
        argument("undo(11)", x -> x.undo(11));
        argument("undo(least)", x -> x.undo(LEAST));
        argument("undo(most)", x -> x.undo(MOST));
        MovingNames y = Check.town("streets 20;");
        for (int n = 0; n < 12; n++) y.hang(0, n);
        Check.dueThrow("undo(11) of twelve", Check.ARGUMENT, () -> y.undo(11));
        Check.due("none undone", y.street(0, 0), 11);
        Check.due("undo(10)", y.undo(10), 0);
        Check.dueThrow("undo(1) of none", Check.ARGUMENT, () -> y.undo(1));
    }

    private static void toldDeeds() {
        Check.says("23: no such TRAY; it is MISSING; another what");
        noSuch("judge(-1, 0)", x -> x.judge(-1, 0));
        noSuch("judge(4, 0)", x -> x.judge(4, 0));
        noSuch("judge(4, 4)", x -> x.judge(4, 4));
        state("judge(3, 0)", x -> x.judge(3, 0));
        state("judge(3, 4)", x -> x.judge(3, 4));
        argument("judge(0, -1)", x -> x.judge(0, -1));
        argument("judge(0, 4)", x -> x.judge(0, 4));
        argument("judge(2, most)", x -> x.judge(2, MOST));
        Check.says("24: no such TRAY; it is MISSING");
        noSuch("perform(-1)", x -> x.perform(-1));
        noSuch("perform(4)", x -> x.perform(4));
        noSuch("perform(least)", x -> x.perform(LEAST));
        state("perform(3)", x -> x.perform(3));
    }

    private static void months() {
        Check.says("25: how many times; no STREETS");
        argument("month(1, 0)", x -> x.month(1, 0));
        argument("month(1, 31)", x -> x.month(1, 31));
        argument("month(1, -1)", x -> x.month(1, -1));
        argument("month(1, least)", x -> x.month(1, LEAST));
        argument("month(1, most)", x -> x.month(1, MOST));
    }

    private static void whenSignsHang() {
        Check.says("28: no such TRAY; it is MISSING; numbers that are none such, not so many");
        noSuch("when(-1)", x -> x.when(-1));
        noSuch("when(4)", x -> x.when(4));
        state("when(3)", x -> x.when(3));
        argument("when: none", x -> x.when(2));
        Check.says("29: no such STREET; both one");
        noSuch("follows(-1, 0)", x -> x.follows(-1, 0));
        noSuch("follows(0, -1)", x -> x.follows(0, -1));
        noSuch("follows(6, 0)", x -> x.follows(6, 0));
        noSuch("follows(0, 6)", x -> x.follows(0, 6));
        noSuch("follows(6, 6)", x -> x.follows(6, 6));
        argument("follows(0, 0)", x -> x.follows(0, 0));
        argument("follows(5, 5)", x -> x.follows(5, 5));
        Check.says("30: no such STREET");
        noSuch("again(-1)", x -> x.again(-1));
        noSuch("again(6)", x -> x.again(6));
        noSuch("again(most)", x -> x.again(MOST));
        Check.says("31: no such STREET; both one");
        noSuch("beside(-1, 0)", x -> x.beside(-1, 0));
        noSuch("beside(0, -1)", x -> x.beside(0, -1));
        noSuch("beside(6, 0)", x -> x.beside(6, 0));
        noSuch("beside(0, 6)", x -> x.beside(0, 6));
        noSuch("beside(-1, -1)", x -> x.beside(-1, -1));
        argument("beside(0, 0)", x -> x.beside(0, 0));
        argument("beside(5, 5)", x -> x.beside(5, 5));
    }

    private static void visitsAndUnder() {
        Check.says("32: no such NAME; n (0 to 999)");
        noSuch("visits(-1, 0)", x -> x.visits(-1, 0));
        noSuch("visits(6, 0)", x -> x.visits(6, 0));
        noSuch("visits(6, 1000)", x -> x.visits(6, 1000));
        argument("visits(0, -1)", x -> x.visits(0, -1));
        argument("visits(0, 1000)", x -> x.visits(0, 1000));
        argument("visits(0, least)", x -> x.visits(0, LEAST));
        Check.says("33: no such PERSON; n (0 to 999)");
        noSuch("under(-1, 0)", x -> x.under(-1, 0));
        noSuch("under(3, 0)", x -> x.under(3, 0));
        noSuch("under(3, -1)", x -> x.under(3, -1));
        argument("under(0, -1)", x -> x.under(0, -1));
        argument("under(0, 1000)", x -> x.under(0, 1000));
        argument("under(0, most)", x -> x.under(0, MOST));
    }

    private static void letters() {
        Check.says("34: no such TRAY; it is MISSING; numbers that are none such, not so many, another what");
        noSuch("home(-1, 0)", x -> x.home(-1, 0));
        noSuch("home(4, 0)", x -> x.home(4, 0));
        noSuch("home(4, 1)", x -> x.home(4, 1));
        state("home(3, 0)", x -> x.home(3, 0));
        state("home(3, 1)", x -> x.home(3, 1));
        argument("home: none", x -> x.home(2, 0));
        argument("home: none, 10", x -> x.home(2, 10));
        argument("home(1, -1)", x -> x.home(1, -1));
        argument("home(1, 1)", x -> x.home(1, 1));
        argument("home(1, 9)", x -> x.home(1, 9));
        argument("home(1, 12) of two", x -> x.home(1, 12));
        argument("home(1, most)", x -> x.home(1, MOST));
        Check.says("35: no such NAME, STREET; t (0 to 99)");
        noSuch("written(-1, 0, 0)", x -> x.written(-1, 0, 0));
        noSuch("written(6, 0, 0)", x -> x.written(6, 0, 0));
        noSuch("written(0, -1, 0)", x -> x.written(0, -1, 0));
        noSuch("written(0, 6, 0)", x -> x.written(0, 6, 0));
        noSuch("written(0, 6, 100)", x -> x.written(0, 6, 100));
        argument("written(0, 0, -1)", x -> x.written(0, 0, -1));
        argument("written(0, 0, 100)", x -> x.written(0, 0, 100));
        argument("written(0, 0, most)", x -> x.written(0, 0, MOST));
        Check.says("36: no such PERSON, NAME; another what");
        noSuch("served(-1, 0, 0)", x -> x.served(-1, 0, 0));
        noSuch("served(3, 0, 0)", x -> x.served(3, 0, 0));
        noSuch("served(0, -1, 0)", x -> x.served(0, -1, 0));
        noSuch("served(0, 6, 0)", x -> x.served(0, 6, 0));
        noSuch("served(0, 6, 2)", x -> x.served(0, 6, 2));
        argument("served(0, 0, -1)", x -> x.served(0, 0, -1));
        argument("served(2, 5, 2)", x -> x.served(2, 5, 2));
    }

    private static void maps() {
        Check.says("38, 40: n (-9999 to 9999)");
        argument("right(10000)", x -> x.right(10000));
        argument("right(-10000)", x -> x.right(-10000));
        argument("right(least)", x -> x.right(LEAST));
        argument("harm(10000)", x -> x.harm(10000));
        argument("harm(-10000)", x -> x.harm(-10000));
        argument("harm(most)", x -> x.harm(MOST));
        Check.says("39: n; k is below 0");
        argument("rightDays(0, -1)", x -> x.rightDays(0, -1));
        argument("rightDays(0, 1000)", x -> x.rightDays(0, 1000));
        argument("rightDays(-1, 0)", x -> x.rightDays(-1, 0));
        argument("rightDays(least, 9)", x -> x.rightDays(LEAST, 9));
        Check.says("41: the MOVES 1 to n (1 to 999)");
        argument("leastHarm(0)", x -> x.leastHarm(0));
        argument("leastHarm(1000)", x -> x.leastHarm(1000));
        argument("leastHarm(-1)", x -> x.leastHarm(-1));
        argument("leastHarm(least)", x -> x.leastHarm(LEAST));
    }

    private static void errorsInkChanges() {
        Check.says("42: no such TRAY; it is MISSING; numbers that are none such, not as many as STREETS, another what");
        noSuch("errors(-1, 0)", x -> x.errors(-1, 0));
        noSuch("errors(4, 0)", x -> x.errors(4, 0));
        noSuch("errors(4, 3)", x -> x.errors(4, 3));
        state("errors(3, 0)", x -> x.errors(3, 0));
        state("errors(3, 3)", x -> x.errors(3, 3));
        argument("errors: not as many", x -> x.errors(1, 0));
        argument("errors: none", x -> x.errors(2, 0));
        argument("errors(0, -1)", x -> x.errors(0, -1));
        argument("errors(0, 3)", x -> x.errors(0, 3));
        Check.says("43: no such TRAY; it is MISSING; numbers that are none such, not as many as STREETS");
        noSuch("ink(-1)", x -> x.ink(-1));
        noSuch("ink(4)", x -> x.ink(4));
        state("ink(3)", x -> x.ink(3));
        argument("ink: not as many", x -> x.ink(1));
        argument("ink: none", x -> x.ink(2));
        Check.says("44: likewise");
        noSuch("changes(-1)", x -> x.changes(-1));
        noSuch("changes(4)", x -> x.changes(4));
        state("changes(3)", x -> x.changes(3));
        argument("changes: not as many", x -> x.changes(1));
        argument("changes: none", x -> x.changes(2));
        dueNames();
    }

    /** As many numbers as STREETS, one of them none such, at the first, a middle and the last place. */
    private static void dueNames() {
        Check.says("42 to 44: numbers that are none such, not as many as STREETS");
        long[] none = {6, 20, -2, Long.MIN_VALUE, Long.MAX_VALUE, 1L << 32, -1};
        int[] places = {0, 3, 5};
        for (long v : none) {
            for (int place : places) {
                MovingNames x = Check.town("streets 6;");
                Check.row(x, 0, 0, 1, 2, 3, 4, 5);
                x.write(0, place, v);
                if (v == -1) Check.due("errors: not seen", x.errors(0, 0), 0);
                else Check.dueThrow("errors: " + v, Check.ARGUMENT, () -> x.errors(0, 0));
                Check.dueThrow("ink: " + v, Check.ARGUMENT, () -> x.ink(0));
                Check.dueThrow("changes: " + v, Check.ARGUMENT, () -> x.changes(0));
            }
        }
        MovingNames y = Check.town("streets 6;");
        for (int many = 0; many <= 30; many += many == 7 ? 23 : 1) {
            y.tray(0, 0, many);
            if (many == 6) continue;
            Check.dueThrow("errors of " + many, Check.ARGUMENT, () -> y.errors(0, 0));
            Check.dueThrow("ink of " + many, Check.ARGUMENT, () -> y.ink(0));
            Check.dueThrow("changes of " + many, Check.ARGUMENT, () -> y.changes(0));
        }
    }

    private static void trays() {
        Check.says("47: no such TRAY; no such sort, or not so many");
        noSuch("tray(-1, 0, 0)", x -> x.tray(-1, 0, 0));
        noSuch("tray(4, 0, 0)", x -> x.tray(4, 0, 0));
        noSuch("tray(4, 4, 31)", x -> x.tray(4, 4, 31));
        noSuch("tray(least, 0, 0)", x -> x.tray(LEAST, 0, 0));
        argument("tray(3, -1, 0)", x -> x.tray(3, -1, 0));
        argument("tray(3, 4, 0)", x -> x.tray(3, 4, 0));
        argument("tray(3, 0, -1)", x -> x.tray(3, 0, -1));
        argument("tray(3, 0, 31)", x -> x.tray(3, 0, 31));
        argument("tray(0, 4, 2)", x -> x.tray(0, 4, 2));
        argument("tray(0, 0, most)", x -> x.tray(0, 0, MOST));
        Check.says("48: no such TRAY; it is MISSING; it has no such place");
        noSuch("write(-1, 0, 9)", x -> x.write(-1, 0, 9));
        noSuch("write(4, 0, 9)", x -> x.write(4, 0, 9));
        noSuch("write(4, 31, 9)", x -> x.write(4, 31, 9));
        state("write(3, 0, 9)", x -> x.write(3, 0, 9));
        state("write(3, -1, 9)", x -> x.write(3, -1, 9));
        refused("write(0, -1, 9)", Check.INDEX, x -> x.write(0, -1, 9));
        refused("write(0, 6, 9)", Check.INDEX, x -> x.write(0, 6, 9));
        refused("write(2, 0, 9)", Check.INDEX, x -> x.write(2, 0, 9));
        refused("write(0, most, 9)", Check.INDEX, x -> x.write(0, MOST, 9));
        refused("write(0, least, 9)", Check.INDEX, x -> x.write(0, LEAST, 9));
        Check.says("49: no such TRAY; it is MISSING");
        noSuch("copy(-1)", x -> x.copy(-1));
        noSuch("copy(4)", x -> x.copy(4));
        state("copy(3)", x -> x.copy(3));
    }

    private static void images() {
        Check.says("50: no such one");
        noSuch("image(-1)", x -> x.image(-1));
        noSuch("image(3)", x -> x.image(3));
        noSuch("image(least)", x -> x.image(LEAST));
        noSuch("image(most)", x -> x.image(MOST));
        Check.says("51: no such one; none was made");
        noSuch("restore(-1)", x -> x.restore(-1));
        noSuch("restore(3)", x -> x.restore(3));
        noSuch("restore(most)", x -> x.restore(MOST));
        state("restore(0)", x -> x.restore(0));
        state("restore(2)", x -> x.restore(2));
    }

    /** What a new object refuses, and in which order. */
    private static void withoutStreets() {
        Check.says("1: No STREETS");
        MovingNames x = new MovingNames();
        Check.dueThrow("street(0, 5)", Check.NO_SUCH, () -> x.street(0, 5));
        Check.dueThrow("round(0, 3)", Check.NO_SUCH, () -> x.round(0, 3));
        Check.dueThrow("person(0, 3)", Check.NO_SUCH, () -> x.person(0, 3));
        Check.dueThrow("where(0)", Check.NO_SUCH, () -> x.where(0));
        Check.dueThrow("finds(0, 0)", Check.NO_SUCH, () -> x.finds(0, 0));
        Check.dueThrow("nameIn(0, 10000)", Check.NO_SUCH, () -> x.nameIn(0, 10000));
        Check.dueThrow("goesTo(0, 10000)", Check.NO_SUCH, () -> x.goesTo(0, 10000));
        Check.dueThrow("hang(0, 0)", Check.NO_SUCH, () -> x.hang(0, 0));
        Check.dueThrow("change(0, 0)", Check.NO_SUCH, () -> x.change(0, 0));
        Check.dueThrow("letIn(0, 0, 9)", Check.NO_SUCH, () -> x.letIn(0, 0, 9));
        Check.dueThrow("takeOut(0, 0)", Check.NO_SUCH, () -> x.takeOut(0, 0));
        Check.dueThrow("blind(0)", Check.NO_SUCH, () -> x.blind(0));
        Check.dueThrow("moves(0, 0, 0)", Check.NO_SUCH, () -> x.moves(0, 0, 0));
        Check.dueThrow("follows(0, 0)", Check.NO_SUCH, () -> x.follows(0, 0));
        Check.dueThrow("again(0)", Check.NO_SUCH, () -> x.again(0));
        Check.dueThrow("beside(0, 0)", Check.NO_SUCH, () -> x.beside(0, 0));
        Check.dueThrow("visits(0, -1)", Check.NO_SUCH, () -> x.visits(0, -1));
        Check.dueThrow("under(0, -1)", Check.NO_SUCH, () -> x.under(0, -1));
        Check.dueThrow("written(0, 0, -1)", Check.NO_SUCH, () -> x.written(0, 0, -1));
        Check.dueThrow("served(0, 0, -1)", Check.NO_SUCH, () -> x.served(0, 0, -1));
        Check.dueThrow("findsIn(0, 0, 0)", Check.NO_SUCH, () -> x.findsIn(0, 0, 0));
        Check.dueThrow("month(1, 1)", Check.STATE, () -> x.month(1, 1));
        Check.dueThrow("month(1, 30)", Check.STATE, () -> x.month(1, 30));
        Check.dueThrow("month(1, 0)", Check.ARGUMENT, () -> x.month(1, 0));
        Check.dueThrow("month(1, 31)", Check.ARGUMENT, () -> x.month(1, 31));
        x.tray(0, 0, 1);
        Check.dueThrow("when: no such street", Check.ARGUMENT, () -> x.when(0));
        Check.dueThrow("home: no such street", Check.ARGUMENT, () -> x.home(0, 0));
        Check.dueThrow("ink of one", Check.ARGUMENT, () -> x.ink(0));
        Check.dueThrow("changes of one", Check.ARGUMENT, () -> x.changes(0));
        Check.dueThrow("errors of one", Check.ARGUMENT, () -> x.errors(0, 0));
        Check.due("no deeds", x.count(9), 0);
    }
}
