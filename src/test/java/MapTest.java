/** Promises 38 to 46: maps that are right, what harm they do; errors, ink, changes, names twice and lost. */
public final class MapTest {
    public static void main(String[] args) {
        right();
        rightDays();
        harm();
        leastHarm();
        errors();
        ink();
        changes();
        twice();
        lost();
        Check.end("MapTest");
    }

    private static void right() {
        MovingNames x = Check.town(Check.TEN);
        Check.due("right(0)", x.right(0), 10);
        Check.due("right(1)", x.right(1), 0);
        Check.due("right(2)", x.right(2), 2);
        Check.due("right(-3)", x.right(-3), 3);
        Check.due("right(6)", x.right(6), 5);
        Check.due("right(9990)", x.right(9990), 10);
        Check.due("right(9999)", x.right(9999), 3);
        Check.due("right(-9995)", x.right(-9995), 5);
        x.hang(2, 3);
        Check.due("right: signs of one name", x.right(1), 1);
        Check.dueThrow("right(10000)", Check.ARGUMENT, () -> x.right(10000));
        Check.dueThrow("right(-10000)", Check.ARGUMENT, () -> x.right(-10000));
        Check.due("right: no streets", new MovingNames().right(5), 0);
    }

    private static void rightDays() {
        MovingNames x = Check.town(Check.TEN);
        Check.due("rightDays(0, 0)", x.rightDays(0, 0), 0);
        Check.due("rightDays(0, 7)", x.rightDays(0, 7), 7);
        Check.due("rightDays(1, 30)", x.rightDays(1, 30), 30 - 8);
        Check.due("rightDays(10, 29)", x.rightDays(10, 29), 0);
        Check.due("rightDays(10, 30)", x.rightDays(10, 30), 1);
        Check.due("rightDays(10, 999)", x.rightDays(10, 999), 33);
        Check.due("rightDays(5, 30)", x.rightDays(5, 30), 10);
        Check.due("rightDays(11, 999)", x.rightDays(11, 999), 0);
        Check.due("rightDays(2147483647, 9)", x.rightDays(2147483647, 9), 0);
        Check.dueThrow("rightDays(-1, 9)", Check.ARGUMENT, () -> x.rightDays(-1, 9));
        Check.dueThrow("rightDays(0, -1)", Check.ARGUMENT, () -> x.rightDays(0, -1));
        Check.dueThrow("rightDays(0, 1000)", Check.ARGUMENT, () -> x.rightDays(0, 1000));
        Check.due("rightDays: no streets", new MovingNames().rightDays(0, 4), 4);
    }

    private static void harm() {
        MovingNames x = Check.town(Check.SIX);
        Check.due("harm(0)", x.harm(0), 0);
        Check.due("harm(1)", x.harm(1), 8);
        Check.due("harm(-1)", x.harm(-1), 8);
        Check.due("harm(9999)", x.harm(9999), 0);
        Check.due("harm(-9998)", x.harm(-9998), 8);
        x.hang(0, 1);
        // names 1 hang twice: of the first round 2 alone counts, from street 2 to 0
        Check.due("harm: names that hang twice don't count", x.harm(1), 2 + 4);
        Check.dueThrow("harm(10000)", Check.ARGUMENT, () -> x.harm(10000));
        Check.dueThrow("harm(-10000)", Check.ARGUMENT, () -> x.harm(-10000));
        MovingNames y = Check.town("streets 4;round: 0 3 1;");
        Check.due("harm: by their numbers", y.harm(1), 3 + 2 + 1);
        Check.due("harm: no streets", new MovingNames().harm(1), 0);
    }

    private static void leastHarm() {
        MovingNames x = Check.town(Check.SIX);
        Check.due("leastHarm(1)", x.leastHarm(1), 1);
        Check.due("leastHarm(2)", x.leastHarm(2), 1);
        Check.due("leastHarm(3)", x.leastHarm(3), 3);
        Check.due("leastHarm(999)", x.leastHarm(999), 3);
        MovingNames y = Check.town("streets 10;round: 0 9 1 8;round: 2 3;");
        // by 1: 9, 8, 7, 8 and 1, 1; by 2: 1, 1, 1, 1
        Check.due("leastHarm: a later one", y.leastHarm(3), 2);
        Check.due("leastHarm: the period", y.leastHarm(4), 4);
        MovingNames z = Check.town("streets 3;round: 0 1 2;sign 1 0;");
        // 2 alone counts: it comes to 0, to 1 and back
        Check.due("leastHarm: one is some", z.leastHarm(2), 2);
        Check.due("leastHarm: none is less", z.leastHarm(3), 3);
        Check.dueThrow("leastHarm(0)", Check.ARGUMENT, () -> y.leastHarm(0));
        Check.dueThrow("leastHarm(1000)", Check.ARGUMENT, () -> y.leastHarm(1000));
        Check.dueThrow("leastHarm(-1)", Check.ARGUMENT, () -> y.leastHarm(-1));
        Check.due("leastHarm: no streets", new MovingNames().leastHarm(3), 1);
    }

    private static void dueErrors(String call, MovingNames x, int many, int moves, int streets) {
        Check.due(call + ": how many", x.errors(0, 0), many);
        Check.due(call + ": moves", x.errors(0, 1), moves);
        Check.due(call + ": streets", x.errors(0, 2), streets);
    }

    private static void errors() {
        MovingNames x = Check.town("streets 5;round: 0 1 2 3 4;");
        Check.row(x, 0, 0, 1, 2, 3, 4);
        dueErrors("errors: now", x, 0, 0, 0);
        Check.row(x, 0, 1, 2, 3, 4, 0);
        dueErrors("errors: the last of the period", x, 0, 4, 0);
        Check.row(x, 0, 3, 4, 0, 2, 1);
        dueErrors("errors: two hung wrong", x, 2, 2, 8 | 16);
        Check.row(x, 0, -1, -1, -1, 2, 3);
        dueErrors("errors: seen ones alone", x, 0, 1, 0);
        Check.row(x, 0, -1, -1, -1, -1, -1);
        dueErrors("errors: none seen", x, 0, 0, 0);
        Check.row(x, 0, 1, 1, 1, 1, 1);
        dueErrors("errors: the first of like ones", x, 4, 0, 1 | 4 | 8 | 16);
        Check.row(x, 0, 1, 1, 1, 1);
        Check.dueThrow("errors: four", Check.ARGUMENT, () -> x.errors(0, 0));
        Check.row(x, 0, 1, 1, 1, 1, 1, 1);
        Check.dueThrow("errors: six", Check.ARGUMENT, () -> x.errors(0, 0));
        Check.row(x, 0, 1, 1, 5, 1, 1);
        Check.dueThrow("errors: no name", Check.ARGUMENT, () -> x.errors(0, 0));
        Check.row(x, 0, 1, 1, -2, 1, 1);
        Check.dueThrow("errors: no number", Check.ARGUMENT, () -> x.errors(0, 0));
        Check.row(x, 0, 1, 1, 1L << 32, 1, 1);
        Check.dueThrow("errors: a long one", Check.ARGUMENT, () -> x.errors(0, 0));
        Check.row(x, 0, 1, 1, 1, 1, 1);
        Check.dueThrow("errors(0, 3)", Check.ARGUMENT, () -> x.errors(0, 3));
        Check.dueThrow("errors(0, -1)", Check.ARGUMENT, () -> x.errors(0, -1));
        Check.dueThrow("errors(4, 3)", Check.NO_SUCH, () -> x.errors(4, 3));
        Check.dueThrow("errors(1, 3)", Check.STATE, () -> x.errors(1, 3));
        MovingNames y = new MovingNames();
        y.tray(0, 0, 0);
        dueErrors("errors: no streets", y, 0, 0, 0);
    }

    private static void ink() {
        MovingNames x = Check.town("streets 4;sign 0 1;");
        Check.row(x, 0, 1, 1, 2, 3);
        Check.due("ink: none", x.ink(0), 0);
        Check.row(x, 0, 0, 1, 3, 2);
        Check.due("ink: three", x.ink(0), 3);
        Check.row(x, 0, 0, 0, 0, 0);
        Check.due("ink: four", x.ink(0), 4);
        long[] none = {-1, 4, Long.MIN_VALUE};
        for (long v : none) {
            Check.row(x, 0, 0, 1, v, 2);
            Check.dueThrow("ink: no name " + v, Check.ARGUMENT, () -> x.ink(0));
        }
        Check.row(x, 0, 0, 1, 2);
        Check.dueThrow("ink: three numbers", Check.ARGUMENT, () -> x.ink(0));
        Check.row(x, 0, 0, 1, 2, 3, 3);
        Check.dueThrow("ink: five numbers", Check.ARGUMENT, () -> x.ink(0));
        Check.dueThrow("ink(4)", Check.NO_SUCH, () -> x.ink(4));
        Check.dueThrow("ink(-1)", Check.NO_SUCH, () -> x.ink(-1));
        Check.dueThrow("ink(2)", Check.STATE, () -> x.ink(2));
        MovingNames y = new MovingNames();
        y.tray(0, 0, 0);
        Check.due("ink: no streets", y.ink(0), 0);
    }

    private static void changes() {
        MovingNames x = Check.town("streets 6;");
        Check.row(x, 0, 0, 1, 2, 3, 4, 5);
        Check.due("changes: none", x.changes(0), 0);
        Check.row(x, 0, 0, 2, 1, 3, 4, 5);
        Check.due("changes: one", x.changes(0), 1);
        Check.row(x, 0, 1, 2, 0, 4, 3, 5);
        Check.due("changes: a three and a two", x.changes(0), 3);
        Check.row(x, 0, 1, 2, 3, 4, 5, 0);
        Check.due("changes: one ring", x.changes(0), 5);
        x.change(0, 5);
        Check.due("changes: from other names", x.changes(0), 4);
        Check.row(x, 0, 1, 1, 0, 4, 3, 5);
        Check.due("changes: not by any", x.changes(0), -1);
        x.hang(0, 1);
        Check.due("changes: names alike", x.changes(0), -2);
        Check.row(x, 0, 1, 1, 2, 3, 4, 0);
        Check.due("changes: names alike, as they hang", x.changes(0), -2);
        Check.row(x, 0, 1, 2, 3, 4, 5, 6);
        Check.dueThrow("changes: no name", Check.ARGUMENT, () -> x.changes(0));
        Check.row(x, 0, 1, 2, 3, 4, 5, -1);
        Check.dueThrow("changes: not seen", Check.ARGUMENT, () -> x.changes(0));
        Check.row(x, 0, 1, 2, 3, 4, 5);
        Check.dueThrow("changes: five", Check.ARGUMENT, () -> x.changes(0));
        Check.dueThrow("changes(4)", Check.NO_SUCH, () -> x.changes(4));
        Check.dueThrow("changes(1)", Check.STATE, () -> x.changes(1));
        MovingNames y = new MovingNames();
        y.tray(0, 0, 0);
        Check.due("changes: no streets", y.changes(0), 0);
        MovingNames z = Check.town("streets 20;");
        long[] back = new long[20];
        for (int s = 0; s < 20; s++) back[s] = 19 - s;
        Check.row(z, 0, back);
        Check.due("changes: ten rings of two", z.changes(0), 10);
    }

    private static void twice() {
        MovingNames x = Check.town("streets 20;sign 0 19;sign 3 19;sign 4 5;");
        Check.due("twice", x.twice(), 1 << 19 | 1 << 5);
        Check.due("twice: streets", x.count(8), 5);
        Check.due("twice: of name 0", Check.town("streets 3;sign 1 0;").twice(), 1);
        Check.due("twice: streets of name 0", Check.town("streets 3;sign 1 0;").count(8), 2);
        Check.due("twice: none", Check.town("streets 3;").twice(), 0);
        Check.due("twice: no streets", new MovingNames().twice(), 0);
    }

    private static void lost() {
        MovingNames x = Check.town("streets 20;sign 0 19;sign 3 19;sign 4 5;");
        Check.due("lost", x.lost(), 1 | 1 << 3 | 1 << 4);
        x.hang(19, 0);
        Check.due("lost: found again", x.lost(), 1 << 3 | 1 << 4);
        Check.due("lost: none", Check.town("streets 3;").lost(), 0);
        Check.due("lost: no streets", new MovingNames().lost(), 0);
    }
}
