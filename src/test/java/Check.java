import java.util.NoSuchElementException;

/** What the tests share: answers that are due, throws that are due, towns told as texts. */
final class Check {
    static final Class<? extends RuntimeException> NO_SUCH = NoSuchElementException.class;
    static final Class<? extends RuntimeException> STATE = IllegalStateException.class;
    static final Class<? extends RuntimeException> ARGUMENT = IllegalArgumentException.class;
    static final Class<? extends RuntimeException> INDEX = IndexOutOfBoundsException.class;

    /** Two rounds of three streets, three people. */
    static final String SIX = "streets 6;round: 0 1 2;round back by 2: 3 4 5;houses 5;"
        + "person 0 1;person 4 1;person 0 2;";
    /** Rounds of two, three and five. */
    static final String TEN = "streets 10;round: 0 1;round: 2 3 4;round: 5 6 7 8 9;";

    private static int wrong = 0;

    private Check() {
    }

    interface Act {
        void run();
    }

    static void due(String call, long got, long want) {
        if (got != want) {
            wrong++;
            System.out.println(call + " answered " + got + ", due is " + want);
        }
    }

    static void due(String call, boolean got, boolean want) {
        due(call, got ? 1 : 0, want ? 1 : 0);
    }

    static void dueThrow(String call, Class<? extends RuntimeException> want, Act act) {
        Class<?> got = null;
        try {
            act.run();
        } catch (RuntimeException e) {
            got = e.getClass();
        }
        if (got != want) {
            wrong++;
            System.out.println(call + " threw " + got + ", due is " + want);
        }
    }

    /** Lays a text on the tape, twenty bytes at a time, with blanks behind. */
    static void feed(MovingNames x, String text) {
        for (int i = 0; i < text.length(); i += 20) {
            int[] five = new int[5];
            for (int k = 0; k < 20; k++) {
                int c = i + k < text.length() ? text.charAt(i + k) : ' ';
                five[k / 4] |= c << (3 - k % 4) * 8;
            }
            x.feed(five[0], five[1], five[2], five[3], five[4]);
        }
    }

    /** Tells a town: what town() answers. */
    static int tell(MovingNames x, String text) {
        feed(x, text);
        return x.town(text.length());
    }

    static MovingNames town(String text) {
        MovingNames x = new MovingNames();
        int lines = tell(x, text);
        if (lines < 1) {
            wrong++;
            System.out.println("not a town: " + text);
        }
        return x;
    }

    /** A TRAY of 64 bits with these numbers. */
    static void row(MovingNames x, int tray, long... numbers) {
        x.tray(tray, 3, numbers.length);
        for (int i = 0; i < numbers.length; i++) {
            x.write(tray, i, numbers[i]);
        }
    }

    /** The names on all streets, as digits. */
    static void dueNames(String call, MovingNames x, int... want) {
        for (int s = 0; s < want.length; s++) {
            due(call + ": the name on street " + s, x.street(s, 0), want[s]);
        }
        due(call + ": how many streets", x.count(1), want.length);
    }

    static void end(String test) {
        System.out.println(wrong == 0 ? test + ": all answers are as due" : test + ": " + wrong + " are not as due");
        if (wrong != 0) {
            System.exit(1);
        }
    }
}
