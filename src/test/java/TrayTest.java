/** Promises 47 to 52: trays, images, counts; and what the program may show of itself. */
public final class TrayTest {
    public static void main(String[] args) {
        tray();
        write();
        copy();
        image();
        restore();
        count();
        face();
        Check.end("TrayTest");
    }

    private static void tray() {
        MovingNames x = Check.town("streets 1;");
        x.tray(0, 0, 2);
        Check.due("tray: a place", x.write(0, 1, 5), 5);
        Check.dueThrow("tray: no third", Check.INDEX, () -> x.write(0, 2, 5));
        x.tray(0, 0, 0);
        Check.dueThrow("tray: no place", Check.INDEX, () -> x.write(0, 0, 5));
        x.tray(3, 3, 30);
        Check.due("tray: the last place", x.write(3, 29, 5), 5);
        x.tray(1, 2, 1);
        Check.due("tray: zeros", x.ink(1), 0);
        x.write(1, 0, -1);
        Check.due("tray: not seen", x.errors(1, 0), 0);
        Check.dueThrow("tray: -1 is no name", Check.ARGUMENT, () -> x.ink(1));
        x.tray(1, 2, 1);
        Check.due("tray: zeros again", x.ink(1), 0);
        Check.dueThrow("tray(4, 9, 9)", Check.NO_SUCH, () -> x.tray(4, 9, 9));
        Check.dueThrow("tray(-1, 0, 0)", Check.NO_SUCH, () -> x.tray(-1, 0, 0));
        Check.dueThrow("tray(0, 4, 0)", Check.ARGUMENT, () -> x.tray(0, 4, 0));
        Check.dueThrow("tray(0, -1, 0)", Check.ARGUMENT, () -> x.tray(0, -1, 0));
        Check.dueThrow("tray(2, 0, 31)", Check.ARGUMENT, () -> x.tray(2, 0, 31));
        Check.dueThrow("tray(2, 0, -1)", Check.ARGUMENT, () -> x.tray(2, 0, -1));
        Check.dueThrow("tray: a throw makes none", Check.STATE, () -> x.copy(2));
        x.write(3, 0, 77);
        Check.dueThrow("tray(3, 0, 31)", Check.ARGUMENT, () -> x.tray(3, 0, 31));
        Check.due("tray: a throw leaves it", x.write(3, 29, 1L << 50), 1L << 50);
    }

    private static void write() {
        MovingNames x = new MovingNames();
        long[] v = {0x1122334455667788L, -1, 127, 128, 200, 32767, 32768, 1L << 31, Long.MIN_VALUE};
        for (int sort = 0; sort < 4; sort++) {
            x.tray(sort, sort, 3);
            for (int k = 0; k < v.length; k++) {
                long cut = sort == 0 ? (byte) v[k] : sort == 1 ? (short) v[k] : sort == 2 ? (int) v[k] : v[k];
                Check.due("write(" + sort + ", " + v[k] + ")", x.write(sort, k % 3, v[k]), cut);
            }
        }
        Check.due("write: 8 bits", x.write(0, 0, 200), -56);
        Check.due("write: 16 bits", x.write(1, 0, 40000), -25536);
        MovingNames y = Check.town("streets 2;");
        y.tray(0, 0, 2);
        y.write(0, 1, 257);
        Check.due("write: it stays cut", y.ink(0), 0);
        Check.dueThrow("write(4, 0, 0)", Check.NO_SUCH, () -> y.write(4, 0, 0));
        Check.dueThrow("write(-1, 0, 0)", Check.NO_SUCH, () -> y.write(-1, 0, 0));
        Check.dueThrow("write(1, 9, 0)", Check.STATE, () -> y.write(1, 9, 0));
        Check.dueThrow("write(0, 2, 0)", Check.INDEX, () -> y.write(0, 2, 0));
        Check.dueThrow("write(0, -1, 0)", Check.INDEX, () -> y.write(0, -1, 0));
    }

    private static void copy() {
        MovingNames x = Check.town("streets 4;round: 0 1 2 3;");
        x.nights(1);
        x.tray(0, 0, 4);
        Check.due("copy: as many", x.copy(0), 4);
        Check.due("copy: the names", x.ink(0), 0);
        x.nights(1);
        Check.due("copy: these stay", x.ink(0), 4);
        x.tray(1, 1, 2);
        Check.due("copy: fewer places", x.copy(1), 2);
        x.tray(2, 3, 6);
        Check.row(x, 2, 9, 9, 9, 9, -7, 9);
        Check.due("copy: more places", x.copy(2), 4);
        // 2, 3, 0, 1 hang by now: 2 is told to street 2, and so on; -7 is the first that can't be
        Check.due("copy: the others stay", x.judge(2, 0), 4);
        x.tray(3, 0, 0);
        Check.due("copy: no places", x.copy(3), 0);
        Check.dueThrow("copy(4)", Check.NO_SUCH, () -> x.copy(4));
        Check.dueThrow("copy(-1)", Check.NO_SUCH, () -> x.copy(-1));
        MovingNames y = new MovingNames();
        Check.dueThrow("copy: missing", Check.STATE, () -> y.copy(0));
        y.tray(0, 0, 3);
        Check.due("copy: no streets", y.copy(0), 0);
    }

    private static void image() {
        MovingNames x = Check.town(Check.SIX + "rest day=2;");
        x.image(2);
        x.nights(3);
        x.image(0);
        x.hang(0, 5);
        x.image(0);
        x.restore(2);
        Check.due("image: the day", x.count(5), 0);
        x.restore(0);
        Check.due("image: made anew", x.street(0, 0), 5);
        Check.due("image: the day of it", x.count(5), 3);
        Check.due("image: deeds of it", x.count(9), 2);
        Check.dueThrow("image(3)", Check.NO_SUCH, () -> x.image(3));
        Check.dueThrow("image(-1)", Check.NO_SUCH, () -> x.image(-1));
        Check.dueThrow("restore(1)", Check.STATE, () -> x.restore(1));
    }

    private static void restore() {
        MovingNames x = Check.town(Check.SIX + "blind 2;rest day=2;");
        x.hang(0, 5);
        x.nights(2);
        x.letIn(3, 0, 0);
        x.moves(0, 4, 4);
        x.image(1);
        int nameThen = x.street(1, 0);
        x.takeOut(3, 0);
        x.takeOut(1, 0);
        x.blind(2);
        x.blind(0);
        x.moves(0, 1, 2);
        x.nights(9);
        x.change(0, 1);
        Check.tell(x, "streets 3;round by 2: 1 2;houses 77;");
        Check.feed(x, "streets 2;blind 0;no");
        x.tray(0, 0, 2);
        x.restore(1);
        int[] counts = {9, 6, 2, 3, 5, 2, 2, 1, 2, 4, 20};
        for (int what = 0; what < counts.length; what++) Check.due("restore: count(" + what + ")", x.count(what), counts[what]);
        Check.due("restore: the names", x.street(1, 0), nameThen);
        Check.due("restore: the rounds", x.round(0, 0), 4);
        Check.due("restore: its streets", x.round(0, 10), 3);
        Check.due("restore: by", x.round(0, 1), 1);
        Check.due("restore: back", x.round(1, 2), 1);
        Check.due("restore: by of the other", x.round(1, 1), 2);
        Check.due("restore: blind", x.street(2, 1), 1);
        Check.due("restore: not blind", x.street(0, 1), 0);
        Check.due("restore: the person's street", x.person(0, 0), 4);
        Check.due("restore: the person's house", x.person(0, 1), 4);
        Check.due("restore: the law", x.rests(), true);
        Check.due("restore: the trays stay", x.copy(0), 2);
        Check.due("restore: the tape stays", x.town(18), 2);
        x.restore(1);
        Check.due("restore: deeds are undone", x.undo(4), 0);
        Check.dueNames("restore: as it was", x, 0, 1, 2, 3, 4, 5);
        Check.due("restore: no street let in", x.round(0, 0), 3);
        x.restore(1);
        Check.due("restore: the image stays", x.count(9), 4);
        Check.dueThrow("restore(3)", Check.NO_SUCH, () -> x.restore(3));
        Check.dueThrow("restore(-1)", Check.NO_SUCH, () -> x.restore(-1));
        Check.dueThrow("restore(0)", Check.STATE, () -> x.restore(0));
        MovingNames y = new MovingNames();
        y.image(0);
        Check.tell(y, "streets 3;houses 4;");
        y.restore(0);
        Check.due("restore: no streets", y.count(1), 0);
        Check.due("restore: nine houses", y.count(4), 9);
    }

    private static void count() {
        MovingNames x = Check.town(Check.SIX + "blind 1;blind 4;sign 0 1;sign 2 1;");
        x.nights(7);
        Check.feed(x, "x");
        int[] counts = {11, 6, 2, 3, 5, 7, 7, 2, 3, 1, 20};
        for (int what = 0; what < counts.length; what++) Check.due("count(" + what + ")", x.count(what), counts[what]);
        Check.due("count(11)", x.count(11), -1);
        Check.due("count(-1)", x.count(-1), -1);
    }

    /** The class shows the document's face and nothing else. */
    private static void face() {
        Check.due("face: methods", MovingNamesFace.methods(), 52 - 1);
        Check.due("face: shown beside it", MovingNamesFace.shownBeside(), 0);
        Check.due("face: private methods with a public name", MovingNamesFace.sharedNames(), 0);
    }

    /** Looks at the class itself. */
    private static final class MovingNamesFace {
        static int methods() {
            int many = 0;
            for (java.lang.reflect.Method m : MovingNames.class.getDeclaredMethods()) {
                if (java.lang.reflect.Modifier.isPublic(m.getModifiers())) many++;
            }
            return many;
        }

        static int shownBeside() {
            int many = MovingNames.class.getDeclaredConstructors().length - 1;
            for (java.lang.reflect.Method m : MovingNames.class.getDeclaredMethods()) {
                int how = m.getModifiers();
                if (!java.lang.reflect.Modifier.isPublic(how) && !java.lang.reflect.Modifier.isPrivate(how)) many++;
            }
            for (java.lang.reflect.Field f : MovingNames.class.getDeclaredFields()) {
                if (!java.lang.reflect.Modifier.isPrivate(f.getModifiers()) && !f.getName().equals("NONE")) many++;
            }
            return many;
        }

        static int sharedNames() {
            int many = 0;
            for (java.lang.reflect.Method a : MovingNames.class.getDeclaredMethods()) {
                for (java.lang.reflect.Method b : MovingNames.class.getDeclaredMethods()) {
                    boolean hidden = !java.lang.reflect.Modifier.isPublic(a.getModifiers());
                    if (hidden && java.lang.reflect.Modifier.isPublic(b.getModifiers()) && a.getName().equals(b.getName())) many++;
                }
            }
            return many;
        }
    }
}
