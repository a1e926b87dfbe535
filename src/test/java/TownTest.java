/** Promises 1 to 11: a new object, the tape, the town's text with its faults, what is where. */
public final class TownTest {
    public static void main(String[] args) {
        aNewObject();
        feed();
        town();
        lines();
        faultsOfTokens();
        faultsOfPlace();
        faultsOfBounds();
        faultsOfMany();
        theFirstFault();
        fault();
        law();
        street();
        round();
        person();
        where();
        finds();
        nameIn();
        goesTo();
        Check.end("TownTest");
    }

    private static void aNewObject() {
        MovingNames x = new MovingNames();
        int[] counts = {0, 0, 0, 0, 9, 0, 0, 0, 0, 0, 0};
        for (int what = 0; what < counts.length; what++) Check.due("new: count(" + what + ")", x.count(what), counts[what]);
        for (int tray = 0; tray < 4; tray++) {
            int t = tray;
            Check.dueThrow("new: copy", Check.STATE, () -> x.copy(t));
        }
        for (int image = 0; image < 3; image++) {
            int i = image;
            Check.dueThrow("new: restore", Check.STATE, () -> x.restore(i));
        }
        Check.due("new: fault(0)", x.fault(0), 0);
        Check.due("new: fault(1)", x.fault(1), -1);
        Check.due("NONE", MovingNames.NONE, -1);
        Check.dueThrow("new: street", Check.NO_SUCH, () -> x.street(0, 0));
        Check.dueThrow("new: round", Check.NO_SUCH, () -> x.round(0, 0));
        Check.dueThrow("new: person", Check.NO_SUCH, () -> x.person(0, 0));
        Check.due("new: town(0)", x.town(0), -12);
        MovingNames y = new MovingNames();
        Check.dueThrow("new: town(1)", Check.ARGUMENT, () -> y.town(1));
    }

    private static void feed() {
        MovingNames x = new MovingNames();
        Check.due("feed", x.feed(0x73747265, 0x65747320, 0x373b2020, 0x20202020, 0x20202020), 20);
        Check.due("feed: the highest byte first", x.town(20), 1);
        Check.due("feed: streets 7", x.count(1), 7);
        for (int i = 1; i <= 45; i++) Check.due("feed " + i, x.feed(-1, 0x20202020, 0, 1, 2), 20 * i);
        Check.due("feed: more than 900", x.feed(0, 0, 0, 0, 0), -1);
        Check.due("feed: 900 are there", x.count(10), 900);
        Check.due("feed: once more", x.feed(0, 0, 0, 0, 0), -1);
        Check.due("feed: 900 told", x.town(900), -11);
        Check.due("feed: empty", x.count(10), 0);
        Check.due("feed: from the first on", x.feed(0, 0, 0, 0, 0), 20);
        StringBuilder text = new StringBuilder("streets 20;");
        while (text.length() < 890) text.append("sign 0 19;");
        text.append("        ;");
        MovingNames y = new MovingNames();
        Check.due("feed: 900 bytes of a town", Check.tell(y, text.toString()), -12);
        Check.due("feed: place", y.fault(1), text.length() - 1);
        text.setLength(891);
        text.append(" \n   \n\n ");
        Check.due("feed: 899 bytes of a town", Check.tell(y, text.toString()), 89);
    }

    private static void town() {
        MovingNames x = Check.town(Check.SIX);
        Check.due("town: lines", x.count(0), 7);
        x.hang(0, 3);
        x.nights(4);
        x.image(0);
        x.tray(2, 0, 3);
        Check.feed(x, "streets 5;round: 0 1");
        Check.dueThrow("town(-1)", Check.ARGUMENT, () -> x.town(-1));
        Check.dueThrow("town(21)", Check.ARGUMENT, () -> x.town(21));
        Check.due("town: a throw leaves the tape", x.count(10), 20);
        Check.due("town: a fault", x.town(20), -12);
        Check.due("town: the tape is empty", x.count(10), 0);
        Check.due("town: all else stays", x.count(1), 6);
        Check.due("town: deeds stay", x.count(9), 2);
        Check.due("town: day stays", x.count(5), 4);
        Check.due("town: lines stay", x.count(0), 7);
        Check.feed(x, "streets 5;round: 0 1;person 2 2;");
        Check.due("town: the first bytes alone", x.town(21), 2);
        Check.due("town: the tape is empty again", x.count(10), 0);
        int[] counts = {2, 5, 1, 0, 9, 0, 0, 0, 0, 0, 0};
        for (int what = 0; what < counts.length; what++) Check.due("town: count(" + what + ")", x.count(what), counts[what]);
        Check.dueNames("town", x, 0, 1, 2, 3, 4);
        Check.due("town: trays stay", x.copy(2), 3);
        x.restore(0);
        Check.due("town: images stay", x.count(1), 6);
        Check.due("town: no blind street of an older town", Check.tell(x, "streets 3;blind 1;rest 1=1;"), 3);
        Check.due("town: told again", Check.tell(x, "streets 3;"), 1);
        Check.due("town: none blind", x.count(7), 0);
        Check.due("town: no law", x.rests(), false);
    }

    private static void lines() {
        MovingNames x = new MovingNames();
        Check.due("lines: streets alone", Check.tell(x, "streets 1;"), 1);
        Check.due("lines: blanks or none", Check.tell(x, " \n streets\n20 ;round back by 9:19 0;round:1;"), 3);
        Check.due("lines: back", x.round(0, 2), 1);
        Check.due("lines: by", x.round(0, 1), 9);
        Check.due("lines: by is 1", x.round(1, 1), 1);
        Check.due("lines: doesn't go back", x.round(1, 2), 0);
        Check.due("lines: 3 digits", Check.tell(x, "streets 009;houses 099;person 008 009;"), 3);
        Check.due("lines: 99 houses", x.count(4), 99);
        Check.due("lines: later ones strike", Check.tell(x,
            "streets 3;sign 0 1;sign 0 2;houses 7;houses 3;rest 1=1;rest 1=2;blind 1;blind 1;"), 9);
        Check.dueNames("lines: the later sign", x, 2, 1, 2);
        Check.due("lines: the later houses", x.count(4), 3);
        Check.due("lines: the later law", x.rests(), false);
        Check.due("lines: blind once and again", x.street(1, 1), 1);
        Check.due("lines: one house", Check.tell(x, "streets 2;houses 1;round by 1: 0 1;"), 3);
        Check.due("lines: houses bound people", Check.tell(x, "streets 2;houses 1;person 1 2;"), -13);
        Check.due("lines: houses behind other lines", Check.tell(x, "streets 2;sign 0 1;houses 12;person 1 12;"), 4);
        Check.due("lines: people by number", x.person(0, 1), 12);
    }

    private static void faultsOfTokens() {
        Check.dueFault("A", 1, 0);
        Check.dueFault("streets\t2;", 1, 7);
        Check.dueFault("streets 2;\r", 1, 10);
        Check.dueFault("streets 2;Blind 1;", 1, 10);
        Check.dueFault("streets 2;blind 1,", 1, 17);
        Check.dueFault("streets 2;\u00e9", 1, 10);
        Check.dueFault("streets 2;\u0000", 1, 10);
        Check.dueFault("streets 0002;", 1, 8);
        Check.dueFault("streets 2;sign 0 12345 ", 1, 17);
        Check.dueFault("streets 2;1234;", 1, 10);
        Check.dueFault("streets 2;rest 1=1000;", 1, 17);
        Check.dueFault("streets 2;rest 1/1=1;", 1, 16);
        Check.dueFault("streets 2;rest {1=1};", 1, 15);
    }

    private static void faultsOfPlace() {
        Check.dueFault("", 2, 0);
        Check.dueFault("  \n", 2, 3);
        Check.dueFault("streets", 2, 7);
        Check.dueFault("streets 2", 2, 9);
        Check.dueFault("streets 2   ", 2, 12);
        Check.dueFault("streets;", 2, 7);
        Check.dueFault("streets streets;", 2, 8);
        Check.dueFault("2;", 2, 0);
        Check.dueFault(";", 2, 0);
        Check.dueFault("street 2;", 2, 0);
        Check.dueFault("houses 5;streets 2;", 2, 0);
        Check.dueFault("streets 2;streets 2;", 2, 10);
        Check.dueFault("streets 2;;", 2, 10);
        Check.dueFault("streets 2 3;", 2, 10);
        Check.dueFault("streets 2;town 3;", 2, 10);
        Check.dueFault("streets 2;round 0;", 2, 16);
        Check.dueFault("streets 2;round by 2 back: 0;", 2, 21);
        Check.dueFault("streets 2;round back back: 0;", 2, 21);
        Check.dueFault("streets 2;round backby 2: 0;", 2, 16);
        Check.dueFault("streets 2;round by: 0;", 2, 18);
        Check.dueFault("streets 2;round: 0", 2, 18);
        Check.dueFault("streets 2;round:;", 2, 16);
        Check.dueFault("streets 2;round: 0 blind 1;", 2, 19);
        Check.dueFault("streets 2;blind;", 2, 15);
        Check.dueFault("streets 2;blind 0 1;", 2, 18);
        Check.dueFault("streets 2;person 0;", 2, 18);
        Check.dueFault("streets 2;person 0 1 1;", 2, 21);
        Check.dueFault("streets 2;sign 0;", 2, 16);
        Check.dueFault("streets 2;houses;", 2, 16);
        Check.dueFault("streets 2;person 0 1;sign 0 1;houses 5;", 2, 30);
        Check.dueFault("streets 2;rest;", 2, 14);
        Check.dueFault("streets 2;rest 1=1=1;", 2, 18);
        Check.dueFault("streets 2;rest 1=1 1=1;", 2, 19);
        Check.dueFault("streets 2;rest 1=1 and;", 2, 22);
        Check.dueFault("streets 2;rest or 1=1;", 2, 15);
        Check.dueFault("streets 2;rest 1 and 1=1;", 2, 17);
        Check.dueFault("streets 2;rest 1 not 1=1;", 2, 17);
        Check.dueFault("streets 2;rest [1=1;", 2, 19);
        Check.dueFault("streets 2;rest [1]=1;", 2, 17);
        Check.dueFault("streets 2;rest (1=1);", 2, 17);
        Check.dueFault("streets 2;rest 1=1];", 2, 18);
        Check.dueFault("streets 2;rest 1=(1;", 2, 19);
        Check.dueFault("streets 2;rest -1=1;", 2, 15);
        Check.dueFault("streets 2;rest 1+=1;", 2, 17);
        Check.dueFault("streets 2;rest 1=not 1=1;", 2, 17);
        Check.dueFault("streets 2;rest days=1;", 2, 15);
        Check.dueFault("streets 2;rest 1=1", 2, 18);
    }

    private static void faultsOfBounds() {
        Check.dueFault("streets 0;", 3, 8);
        Check.dueFault("streets 21;", 3, 8);
        Check.dueFault("streets 999;", 3, 8);
        Check.dueFault("streets 2;round by 0: 0;", 3, 19);
        Check.dueFault("streets 2;round by 10: 0;", 3, 19);
        Check.dueFault("streets 2;round: 2;", 3, 17);
        Check.dueFault("streets 2;round: 0 1 0;", 3, 21);
        Check.dueFault("streets 2;round: 1 1", 3, 19);
        Check.dueFault("streets 2;blind 2;", 3, 16);
        Check.dueFault("streets 2;person 2 1;", 3, 17);
        Check.dueFault("streets 2;person 1 0;", 3, 19);
        Check.dueFault("streets 2;person 1 10;", 3, 19);
        Check.dueFault("streets 2;houses 9;houses 3;person 1 4;", 3, 37);
        Check.dueFault("streets 2;sign 2 0;", 3, 15);
        Check.dueFault("streets 2;sign 0 2;", 3, 17);
        Check.dueFault("streets 2;houses 0;", 3, 17);
        Check.dueFault("streets 2;houses 100;", 3, 17);
        StringBuilder twenty = new StringBuilder("streets 20;round:");
        for (int s = 0; s < 20; s++) twenty.append(' ').append(s);
        MovingNames x = new MovingNames();
        Check.due("a round of twenty", Check.tell(x, twenty + ";"), 2);
        Check.due("a round of twenty: its last", x.round(0, 29), 19);
        Check.dueFault(twenty + " 7;", 3, twenty.length() + 1);
        Check.due("streets may share", Check.tell(x, "streets 2;round: 0 1;round: 1 0;"), 3);
    }

    private static void faultsOfMany() {
        String four = "streets 2;round: 0;round: 1;round: 0 1;round: 1;";
        MovingNames x = new MovingNames();
        Check.due("four rounds", Check.tell(x, four), 5);
        Check.dueFault(four + "blind 0;round", 4, four.length() + 8);
        StringBuilder eight = new StringBuilder("streets 2;");
        for (int p = 0; p < 8; p++) eight.append("person 0 ").append(p + 1).append(";");
        Check.due("eight people", Check.tell(x, eight.toString()), 9);
        Check.due("eight people: the last", x.person(7, 1), 8);
        Check.dueFault(eight + "person 0 1;", 4, eight.length());
        Check.dueFault(eight + "persons 0 1;", 2, eight.length());
        Check.dueFault(eight + "houses 3;", 2, eight.length());
        Check.due("six within one another", Check.tell(x, "streets 2;rest not [ not [ not [ 1=1]]];"), 2);
        Check.due("six ( within one another", Check.tell(x, "streets 2;rest ((((((1))))))=1;"), 2);
        Check.due("six and six", Check.tell(x, "streets 2;rest [[[[[[1=2]]]]]] or not not not not not not ((1=1;"), -14);
        Check.dueFault("streets 2;rest not [ not [ not [ [ 1=1]]]];", 4, 33);
        Check.dueFault("streets 2;rest not [ not [ not [ not 1=1]]];", 4, 33);
        Check.dueFault("streets 2;rest not [ not [ not [ 1=(1)]]];", 4, 35);
        Check.dueFault("streets 2;rest (((((((1)))))))=1;", 4, 21);
        Check.dueFault("streets 2;rest 1=1+1*(((((((1)))))));", 4, 27);
        Check.due("behind one another", Check.tell(x, "streets 2;rest ((((((1))))))=((((((1)))))) and not [not [not [1=2]]];"), 2);
    }

    private static void theFirstFault() {
        Check.dueFault("streets 21;A", 3, 8);
        Check.dueFault("streets 2;round: 5 99999", 3, 17);
        Check.dueFault("streets 2;blind A 9;", 1, 16);
        Check.dueFault("streets 2;blind 7;round 3;", 3, 16);
        Check.dueFault("streets 2 A", 1, 10);
        Check.dueFault("streets 2;person 9999 1;", 1, 17);
    }

    private static void fault() {
        MovingNames x = new MovingNames();
        Check.due("fault(2)", x.fault(2), -1);
        Check.due("fault(-1)", x.fault(-1), -1);
        Check.tell(x, "streets 3;blind 3;");
        Check.due("fault(0)", x.fault(0), 3);
        Check.due("fault(1)", x.fault(1), 16);
        Check.due("fault(2) with one", x.fault(2), -1);
        Check.dueThrow("town(1)", Check.ARGUMENT, () -> x.town(1));
        Check.due("fault(0): a throw leaves it", x.fault(0), 3);
        x.image(0);
        Check.tell(x, "streets 3;");
        Check.due("fault(0) without", x.fault(0), 0);
        Check.due("fault(1) without", x.fault(1), -1);
        Check.tell(x, "A");
        x.restore(0);
        Check.due("fault(0): an image leaves it", x.fault(0), 1);
        Check.due("fault(1): an image leaves it", x.fault(1), 0);
    }

    private static void dueLaw(String truth, boolean want) {
        MovingNames x = Check.town("streets 4;person 0 1;person 1 1;sign 0 1;rest " + truth + ";");
        Check.due("rest " + truth, x.rests(), want);
    }

    private static void law() {
        dueLaw("1=1", true);
        dueLaw("1=2", false);
        dueLaw("not 1=1", false);
        dueLaw("not 1=2", true);
        dueLaw("1<2", true);
        dueLaw("2<2", false);
        dueLaw("2>2", false);
        dueLaw("3>2", true);
        dueLaw("people=2", true);
        dueLaw("wrong=2", true);
        dueLaw("day=0 and week=0 and moved=0", true);
        dueLaw("2+3*4=14", true);
        dueLaw("(2+3)*4=20", true);
        dueLaw("9-3-2=4", true);
        dueLaw("9-(3-2)=8", true);
        dueLaw("0-5<0", true);
        dueLaw("1=2 and 1=2 or 1=1", true);
        dueLaw("1=1 or 1=1 and 1=2", true);
        dueLaw("[1=1 or 1=1] and 1=2", false);
        dueLaw("not 1=1 or 1=1", true);
        dueLaw("not [1=1 or 1=1]", false);
        dueLaw("not not 1=1", true);
        dueLaw("not 1=2 and 1=2", false);
        dueLaw("999*999*999=999*999+999*2+1", true);
        dueLaw("999*999*2=999*999*3", true);
        dueLaw("999*999*2-999*999=999+999+1", true);
        dueLaw("0-999*999*2=0-999*999*3", true);
        dueLaw("0-999*999*2+999*999=0-999-999-1", true);
        dueLaw("(0-999*999)*999+999*999*2=0", true);
        dueLaw("999*999+999*3=999*999+999*4", true);
        dueLaw("999*999+999*2=999*999+999*3", false);
        MovingNames x = Check.town("streets 2;round: 0 1;rest week=5 or day>12 and moved<13;");
        boolean[] moves = {true, true, true, true, true, false, true, true, true, true, true, true, false, false};
        for (int n = 0; n < moves.length; n++) Check.due("the law's night " + n, x.nights(1), moves[n] ? 1 : 0);
        MovingNames y = Check.town("streets 1;rest day>998 and moved<5;");
        for (int i = 0; i < 27; i++) y.nights(37);
        Check.due("moved modulo 1,000: before", y.rests(), false);
        y.nights(3);
        Check.due("moved modulo 1,000", y.count(6), 1000);
        Check.due("moved modulo 1,000: behind 1,000", y.rests(), true);
    }

    private static void street() {
        MovingNames x = Check.town(Check.SIX + "blind 2;sign 1 5;");
        Check.due("street(1, 0)", x.street(1, 0), 5);
        Check.due("street(2, 0)", x.street(2, 0), 2);
        Check.due("street(2, 1)", x.street(2, 1), 1);
        Check.due("street(1, 1)", x.street(1, 1), 0);
        Check.due("street(2, 2)", x.street(2, 2), 1);
        Check.due("street(5, 2)", x.street(5, 2), 2);
        Check.due("street(0, 3)", x.street(0, 3), 2);
        Check.due("street(2, 3)", x.street(2, 3), 1);
        Check.due("street(3, 3)", x.street(3, 3), 3);
        Check.due("street(0, 4)", x.street(0, 4), 5);
        Check.due("street(4, 4)", x.street(4, 4), 2);
        Check.due("street(1, 4)", x.street(1, 4), 0);
        Check.dueThrow("street(6, 9)", Check.NO_SUCH, () -> x.street(6, 9));
        Check.dueThrow("street(-1, 0)", Check.NO_SUCH, () -> x.street(-1, 0));
        Check.dueThrow("street(0, 5)", Check.ARGUMENT, () -> x.street(0, 5));
        Check.dueThrow("street(0, -1)", Check.ARGUMENT, () -> x.street(0, -1));
        MovingNames y = Check.town("streets 5;round: 0 1 2;round by 2: 2 3 4;round: 4;");
        Check.due("shared: rounds", y.street(2, 2), 3);
        Check.due("shared: rounds of 4", y.street(4, 2), 6);
        // 0 to 1, 1 to 2 and on to 4, 2 to 0, 3 to 2, 4 to 3
        Check.due("shared: one cycle", y.street(3, 3), 5);
    }

    private static void round() {
        MovingNames x = Check.town("streets 5;round back by 3: 4 0 2;round: 1;");
        Check.due("round(0, 0)", x.round(0, 0), 3);
        Check.due("round(0, 1)", x.round(0, 1), 3);
        Check.due("round(0, 2)", x.round(0, 2), 1);
        Check.due("round(0, 10)", x.round(0, 10), 4);
        Check.due("round(0, 11)", x.round(0, 11), 0);
        Check.due("round(0, 12)", x.round(0, 12), 2);
        Check.due("round(0, 13)", x.round(0, 13), -1);
        Check.due("round(0, 29)", x.round(0, 29), -1);
        Check.due("round(1, 0)", x.round(1, 0), 1);
        Check.due("round(1, 1)", x.round(1, 1), 1);
        Check.due("round(1, 2)", x.round(1, 2), 0);
        Check.due("round(1, 10)", x.round(1, 10), 1);
        x.blind(0);
        Check.due("round: a blind one stays in it", x.round(0, 11), 0);
        Check.dueThrow("round(2, 0)", Check.NO_SUCH, () -> x.round(2, 99));
        Check.dueThrow("round(-1, 0)", Check.NO_SUCH, () -> x.round(-1, 0));
        Check.dueThrow("round(0, 3)", Check.ARGUMENT, () -> x.round(0, 3));
        Check.dueThrow("round(0, 9)", Check.ARGUMENT, () -> x.round(0, 9));
        Check.dueThrow("round(0, 30)", Check.ARGUMENT, () -> x.round(0, 30));
        Check.dueThrow("round(0, -1)", Check.ARGUMENT, () -> x.round(0, -1));
    }

    private static void person() {
        MovingNames x = Check.town(Check.SIX);
        Check.due("person(1, 0)", x.person(1, 0), 4);
        Check.due("person(2, 1)", x.person(2, 1), 2);
        Check.due("person(1, 2)", x.person(1, 2), 4);
        x.nights(1);
        Check.due("person(1, 0) a night on", x.person(1, 0), 4);
        Check.due("person(1, 2) a night on", x.person(1, 2), 3);
        Check.dueThrow("person(3, 7)", Check.NO_SUCH, () -> x.person(3, 7));
        Check.dueThrow("person(-1, 0)", Check.NO_SUCH, () -> x.person(-1, 0));
        Check.dueThrow("person(0, 3)", Check.ARGUMENT, () -> x.person(0, 3));
        Check.dueThrow("person(0, -1)", Check.ARGUMENT, () -> x.person(0, -1));
    }

    private static void where() {
        MovingNames x = Check.town("streets 20;sign 19 0;sign 3 0;");
        Check.due("where(0)", x.where(0), 1 | 1 << 3 | 1 << 19);
        Check.due("where(3)", x.where(3), 0);
        Check.due("where(18)", x.where(18), 1 << 18);
        Check.dueThrow("where(20)", Check.NO_SUCH, () -> x.where(20));
        Check.dueThrow("where(-1)", Check.NO_SUCH, () -> x.where(-1));
    }

    private static void finds() {
        MovingNames x = Check.town(Check.SIX + "sign 4 0;");
        Check.due("finds(0, 1)", x.finds(0, 1), 3);
        Check.due("finds(0, 2)", x.finds(0, 2), 4);
        Check.due("finds(0, 5)", x.finds(0, 5), 0);
        Check.due("finds(4, 1)", x.finds(4, 1), 0);
        MovingNames y = Check.town(Check.SIX);
        Check.tell(y, "streets 6;person 3 1;");
        Check.due("finds: no people of an older town", y.finds(4, 1), 0);
        Check.due("finds: people of this one", y.finds(3, 1), 1);
        Check.dueThrow("finds(0, 0)", Check.ARGUMENT, () -> x.finds(0, 0));
        Check.dueThrow("finds(0, 6)", Check.ARGUMENT, () -> x.finds(0, 6));
        Check.dueThrow("finds(6, 6)", Check.NO_SUCH, () -> x.finds(6, 6));
        Check.dueThrow("finds(-1, 1)", Check.NO_SUCH, () -> x.finds(-1, 1));
    }

    private static void nameIn() {
        MovingNames x = Check.town(Check.SIX);
        Check.due("nameIn(0, 0)", x.nameIn(0, 0), 0);
        Check.due("nameIn(0, 1)", x.nameIn(0, 1), 2);
        Check.due("nameIn(0, -1)", x.nameIn(0, -1), 1);
        Check.due("nameIn(3, 1)", x.nameIn(3, 1), 5);
        Check.due("nameIn(3, 2)", x.nameIn(3, 2), 4);
        Check.due("nameIn(1, 9999)", x.nameIn(1, 9999), 1);
        Check.due("nameIn(1, 9998)", x.nameIn(1, 9998), 2);
        Check.due("nameIn(1, -9998)", x.nameIn(1, -9998), 0);
        Check.dueNames("nameIn leaves all", x, 0, 1, 2, 3, 4, 5);
        x.nights(1);
        x.nights(1);
        Check.due("nameIn ago", x.nameIn(1, -2), 1);
        Check.dueThrow("nameIn(0, 10000)", Check.ARGUMENT, () -> x.nameIn(0, 10000));
        Check.dueThrow("nameIn(0, -10000)", Check.ARGUMENT, () -> x.nameIn(0, -10000));
        Check.dueThrow("nameIn(6, 10000)", Check.NO_SUCH, () -> x.nameIn(6, 10000));
        MovingNames y = Check.town("streets 2;round: 0 1;rest 1=1;");
        Check.due("nameIn: MOVES, not NIGHTS", y.nameIn(0, 1), 1);
    }

    private static void goesTo() {
        MovingNames x = Check.town(Check.SIX);
        Check.due("goesTo(0, 0)", x.goesTo(0, 0), 0);
        Check.due("goesTo(0, 1)", x.goesTo(0, 1), 1);
        Check.due("goesTo(2, 1)", x.goesTo(2, 1), 0);
        Check.due("goesTo(0, -1)", x.goesTo(0, -1), 2);
        Check.due("goesTo(3, 1)", x.goesTo(3, 1), 4);
        Check.due("goesTo(3, 2)", x.goesTo(3, 2), 5);
        Check.due("goesTo(0, 9999)", x.goesTo(0, 9999), 0);
        Check.due("goesTo(0, -9998)", x.goesTo(0, -9998), 1);
        Check.dueThrow("goesTo(0, 10000)", Check.ARGUMENT, () -> x.goesTo(0, 10000));
        Check.dueThrow("goesTo(0, -10000)", Check.ARGUMENT, () -> x.goesTo(0, -10000));
        Check.dueThrow("goesTo(6, 10000)", Check.NO_SUCH, () -> x.goesTo(6, 10000));
        MovingNames y = Check.town("streets 5;round: 0 1 2;round by 2: 2 3 4;");
        Check.due("goesTo: the first round first", y.goesTo(1, 1), 4);
        Check.due("goesTo: in the later round alone", y.goesTo(4, 1), 3);
        Check.due("goesTo: out of the first", y.goesTo(2, 1), 0);
        y.blind(2);
        Check.due("goesTo: blind alleys are skipped", y.goesTo(1, 1), 0);
        Check.due("goesTo: from a blind alley", y.goesTo(2, 1), 2);
        Check.due("goesTo: by 2 of two", y.goesTo(3, 1), 3);
    }
}
