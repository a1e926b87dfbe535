import java.util.NoSuchElementException;

/** What the tests share: answers that are due, throws that are due, towns told as texts. */
final class Check {
    static final Class<? extends RuntimeException> NO_SUCH = NoSuchElementException.class;
    static final Class<? extends RuntimeException> STATE = IllegalStateException.class;
    static final Class<? extends RuntimeException> ARGUMENT = IllegalArgumentException.class;
    static final Class<? extends RuntimeException> INDEX = IndexOutOfBoundsException.class;

    /** Two rounds of three streets, three people. */
    static final String SIX = "streets 6;round: 0 1 2;round back by 2: 3 4 5;houses 5;"
        + "person 0 1;person 4 1;person 0 2;";
    /** Rounds of two, three and five. */
    static final String TEN = "streets 10;round: 0 1;round: 2 3 4;round: 5 6 7 8 9;";

    private static int wrong = 0;
    private static String sentence = "";

    private Check() {
    }

    /** The sentence of the document that the next answers belong to: it is printed with a wrong one. */
    static void says(String words) {
        sentence = words;
    }

    private static void tellWrong(String what) {
        wrong++;
        System.out.println((sentence.isEmpty() ? "" : "\"" + sentence + "\": ") + what);
    }

    interface Act {
        void run();
    }

    interface Call {
        void on(MovingNames x);
    }

    static void due(String call, long got, long want) {
        if (got != want) {
            tellWrong(call + " answered " + got + ", due is " + want);
        }
    }

    static void due(String call, boolean got, boolean want) {
        due(call, got ? 1 : 0, want ? 1 : 0);
    }

    static void dueThrow(String call, Class<? extends RuntimeException> want, Act act) {
        Class<?> got = null;
        try {
            act.run();
        } catch (RuntimeException e) {
            got = e.getClass();
        }
        if (got != want) {
            tellWrong(call + " threw " + got + ", due is " + want);
        }
    }

    /** Lays a text on the tape, twenty bytes at a time, with blanks behind. */
    static void feed(MovingNames x, String text) {
        for (int i = 0; i < text.length(); i += 20) {
            int[] five = new int[5];
            for (int k = 0; k < 20; k++) {
                int c = i + k < text.length() ? text.charAt(i + k) : ' ';
                five[k / 4] |= c << (3 - k % 4) * 8;
            }
            x.feed(five[0], five[1], five[2], five[3], five[4]);
        }
    }

    /** Tells a town: what town() answers. */
    static int tell(MovingNames x, String text) {
        feed(x, text);
        return x.town(text.length());
    }

    static MovingNames town(String text) {
        MovingNames x = new MovingNames();
        int lines = tell(x, text);
        if (lines < 1) {
            tellWrong("not a town: " + text);
        }
        return x;
    }

    /** A TRAY of 64 bits with these numbers. */
    static void row(MovingNames x, int tray, long... numbers) {
        x.tray(tray, 3, numbers.length);
        for (int i = 0; i < numbers.length; i++) {
            x.write(tray, i, numbers[i]);
        }
    }

    /** A text that is refused, with what kind of FAULT and where. */
    static void dueFault(String text, int kind, int place) {
        MovingNames x = new MovingNames();
        due("town: " + text, tell(x, text), -10 - kind);
        due("fault(0): " + text, x.fault(0), kind);
        due("fault(1): " + text, x.fault(1), place);
    }

    /** A text that is a town of so many lines. */
    static MovingNames dueLines(String text, int lines) {
        MovingNames x = new MovingNames();
        due("town: " + text, tell(x, text), lines);
        due("fault(0): " + text, x.fault(0), 0);
        due("fault(1): " + text, x.fault(1), -1);
        return x;
    }

    /** A town whose one round has all of so many streets, 0 first. */
    static String ring(int streets) {
        StringBuilder text = new StringBuilder("streets " + streets + ";round:");
        for (int s = 0; s < streets; s++) text.append(' ').append(s);
        return text.append(';').toString();
    }

    /** All that can be asked of a small town, the tape and the FAULT, as one text. */
    static String seen(MovingNames x) {
        StringBuilder all = new StringBuilder("counts");
        for (int what = 0; what <= 10; what++) all.append(' ').append(x.count(what));
        all.append(" fault ").append(x.fault(0)).append(' ').append(x.fault(1)).append(" rests ").append(x.rests());
        for (int s = 0; s < x.count(1); s++) {
            all.append(" street ").append(x.street(s, 0)).append(' ').append(x.street(s, 1)).append(' ').append(x.street(s, 2));
        }
        for (int r = 0; r < x.count(2); r++) {
            all.append(" round");
            for (int what = 0; what < 3; what++) all.append(' ').append(x.round(r, what));
            for (int k = 0; k < x.round(r, 0); k++) all.append(' ').append(x.round(r, 10 + k));
        }
        for (int p = 0; p < x.count(3); p++) all.append(" person ").append(x.person(p, 0)).append(' ').append(x.person(p, 1));
        return all.toString();
    }

    static void dueText(String call, String got, String want) {
        if (!got.equals(want)) {
            tellWrong(call + ": " + got + ", due is " + want);
        }
    }

    /** The names on all streets, as digits. */
    static void dueNames(String call, MovingNames x, int... want) {
        for (int s = 0; s < want.length; s++) {
            due(call + ": the name on street " + s, x.street(s, 0), want[s]);
        }
        due(call + ": how many streets", x.count(1), want.length);
    }

    static void end(String test) {
        System.out.println(wrong == 0 ? test + ": all answers are as due" : test + ": " + wrong + " are not as due");
        if (wrong != 0) {
            System.exit(1);
        }
    }
}
