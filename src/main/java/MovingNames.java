import java.util.NoSuchElementException;

/**
 * A town told as a text, in which the streets' names move from street to street by night.
 * What each call answers is said in the document's promises; README.md tells how to use it.
 */
public final class MovingNames {
    public static final int NONE = -1;

    private static final int MOST_BYTES = 900;
    private static final int BYTES_A_FEED = 20;
    private static final int MOST_DIGITS = 3;
    private static final int MOST_STREETS = 20;
    private static final int MOST_ROUNDS = 4;
    private static final int MOST_BY = 9;
    private static final int MOST_PEOPLE = 8;
    private static final int MOST_HOUSES = 99;
    private static final int HOUSES_AT_FIRST = 9;
    private static final int MOST_NESTED = 6;
    private static final int MOST_NIGHTS = 99;
    private static final int MOST_AHEAD = 999;
    private static final int FARTHEST = 9999;
    private static final int MOST_DEEDS = 10;
    private static final int MOST_TIMES = 30;
    private static final int LETTER_NIGHTS = 60;
    private static final int MOST_LETTERS = 8;
    private static final int MOST_TOLD_SIGNS = 10;
    private static final int OLDEST_MAP = 99;
    private static final int SERVED_NIGHTS = 100;
    private static final int TRAYS = 4;
    private static final int SORTS = 4;
    private static final int MOST_NUMBERS = 30;
    private static final int IMAGES = 3;
    private static final int FIRST_PLACE = 10;

    private static final int FAULT_NO_TOKEN = 1;
    private static final int FAULT_MISPLACED = 2;
    private static final int FAULT_BOUNDS = 3;
    private static final int FAULT_TOO_MANY = 4;

    private static final int TOLD_CHANGES = 400;
    private static final int TOLD_END = 800;
    private static final int TROUBLE_NO_SUCH = 1;
    private static final int TROUBLE_BOTH_ONE = 2;

    private static final int DEED_NIGHTS = 1;
    private static final int DEED_SIGN = 2;
    private static final int DEED_CHANGE = 3;
    private static final int DEED_LET_IN = 4;
    private static final int DEED_TAKEN_OUT = 5;
    private static final int DEED_BLIND = 6;
    private static final int DEED_HOUSE = 7;

    // The law's signs; what is not below 0 is a number, the readings come ahead of the reckonings.
    private static final int LAW_DAY = -1;
    private static final int LAW_WEEK = -2;
    private static final int LAW_MOVED = -3;
    private static final int LAW_PEOPLE = -4;
    private static final int LAW_WRONG = -5;
    private static final int LAW_PLUS = -6;
    private static final int LAW_LESS = -7;
    private static final int LAW_TIMES = -8;
    private static final int LAW_EQUAL = -9;
    private static final int LAW_BELOW = -10;
    private static final int LAW_ABOVE = -11;
    private static final int LAW_NOT = -12;
    private static final int LAW_AND = -13;
    private static final int LAW_OR = -14;

    private static final Token[] TOKENS = Token.values();

    private final Reader reader = new Reader();
    private final Town town = new Town();
    private final Town draft = new Town();
    private final Outlook outlook = new Outlook();
    private final Letters letters = new Letters();
    private final Tray[] trays = new Tray[TRAYS];
    private final Town[] images = new Town[IMAGES];
    private int drawn;

    public MovingNames() {
    }

    // ---- the town

    public int feed(int a, int b, int c, int d, int e) {
        return reader.append(a, b, c, d, e);
    }

    public int town(int n) throws IllegalArgumentException {
        if (n < 0 || n > reader.tapeSize) {
            throw new IllegalArgumentException("the tape has not so many bytes");
        }
        reader.read(n, draft);
        if (reader.fault != 0) {
            return -10 - reader.fault;
        }
        town.takeOver(draft);
        return town.lines;
    }

    public int fault(int what) {
        switch (what) {
            case 0: return reader.fault;
            case 1: return reader.faultPlace;
            default: return NONE;
        }
    }

    public int street(int s, int what) throws NoSuchElementException, IllegalArgumentException {
        needStreet(s);
        switch (what) {
            case 0: return at(town.names, s);
            case 1: return town.isBlind(s) ? 1 : 0;
            case 2: return town.rounds.roundsOf(s);
            case 3: outlook.look(town); return outlook.cycleOf(s);
            case 4: return town.peopleOn(s);
            default: throw new IllegalArgumentException("a street has no such thing");
        }
    }

    public int round(int r, int what) throws NoSuchElementException, IllegalArgumentException {
        needRound(r);
        switch (what) {
            case 0: return town.rounds.sizeOf(r);
            case 1: return Math.abs(town.rounds.byOf(r));
            case 2: return town.rounds.byOf(r) < 0 ? 1 : 0;
            default: break;
        }
        if (what < FIRST_PLACE || what >= FIRST_PLACE + MOST_STREETS) {
            throw new IllegalArgumentException("a round has no such thing");
        }
        return town.rounds.streetAt(r, what - FIRST_PLACE);
    }

    public int person(int p, int what) throws NoSuchElementException, IllegalArgumentException {
        needPerson(p);
        switch (what) {
            case 0: return at(town.livesOn, p);
            case 1: return at(town.livesIn, p);
            case 2: return at(town.names, at(town.livesOn, p));
            default: throw new IllegalArgumentException("a person has no such thing");
        }
    }

    public int where(int name) throws NoSuchElementException {
        needName(name);
        return town.streetsOf(name);
    }

    public int finds(int name, int house) throws NoSuchElementException, IllegalArgumentException {
        needName(name);
        needHouse(house);
        return town.peopleIn(house, town.streetsOf(name));
    }

    public int nameIn(int s, int n) throws NoSuchElementException, IllegalArgumentException {
        needStreet(s);
        needReach(n);
        outlook.look(town);
        return at(outlook.names, outlook.ahead(s, -n));
    }

    public int goesTo(int s, int n) throws NoSuchElementException, IllegalArgumentException {
        needStreet(s);
        needReach(n);
        outlook.look(town);
        return outlook.ahead(s, n);
    }

    // ---- deeds

    public int nights(int n) throws IllegalArgumentException {
        needWithin(n, 1, MOST_NIGHTS);
        return town.passNights(n, outlook);
    }

    public boolean rests() {
        return town.movesAmong(1) == 0;
    }

    public int movesIn(int n) throws IllegalArgumentException {
        needWithin(n, 0, MOST_AHEAD);
        return town.movesAmong(n);
    }

    public int nightsFor(int n) throws IllegalArgumentException {
        needWithin(n, 0, MOST_AHEAD);
        return town.nightsTill(n);
    }

    public int hang(int s, int name) throws NoSuchElementException {
        needStreet(s);
        needName(name);
        return town.hangSign(s, name);
    }

    public int change(int s, int t) throws NoSuchElementException, IllegalArgumentException {
        needTwoStreets(s, t);
        town.exchangeSigns(s, t);
        return town.wrongStreets();
    }

    public int letIn(int s, int r, int place)
            throws NoSuchElementException, IllegalStateException, IllegalArgumentException {
        needStreet(s);
        needRound(r);
        if (town.rounds.placeOf(r, s) != NONE) {
            throw new IllegalStateException("the street is in the round");
        }
        needWithin(place, 0, town.rounds.sizeOf(r));
        return town.join(s, r, place);
    }

    public int takeOut(int s, int r) throws NoSuchElementException, IllegalStateException {
        needStreet(s);
        needRound(r);
        if (town.rounds.placeOf(r, s) == NONE) {
            throw new IllegalStateException("the street is not in the round");
        }
        return town.leave(s, r);
    }

    public int blind(int s) throws NoSuchElementException {
        needStreet(s);
        return town.turnBlind(s);
    }

    public int moves(int p, int s, int house) throws NoSuchElementException, IllegalArgumentException {
        needPerson(p);
        needStreet(s);
        needHouse(house);
        return town.moveHouse(p, s, house);
    }

    public int undo(int n) throws IllegalArgumentException {
        needWithin(n, 1, town.deeds.many);
        for (int i = 0; i < n; i++) {
            town.undoLatest(outlook);
        }
        return town.deeds.many;
    }

    public int judge(int tray, int what)
            throws NoSuchElementException, IllegalStateException, IllegalArgumentException {
        Tray told = needTray(tray);
        needWithin(what, 0, 3);
        int done = doable(told);
        draft.takeOver(town);
        int moved = doTold(told, done, draft);
        boolean all = done == told.size;
        switch (what) {
            case 0: return all ? NONE : done;
            case 1: return all ? 0 : town.troubleOf(told.get(done));
            case 2: return moved;
            default: return draft.wrongStreets();
        }
    }

    public int perform(int tray) throws NoSuchElementException, IllegalStateException {
        Tray told = needTray(tray);
        int done = doable(told);
        doTold(told, done, town);
        return done;
    }

    public int month(int seed, int times) throws IllegalArgumentException, IllegalStateException {
        needWithin(times, 1, MOST_TIMES);
        if (town.streets == 0) {
            throw new IllegalStateException("no streets");
        }
        drawn = seed;
        int done = 0;
        for (int i = 0; i < times; i++) {
            if (doDrawn()) {
                done++;
            }
        }
        return done;
    }

    // ---- when

    public long period() {
        outlook.look(town);
        return outlook.periodLength();
    }

    public long asNow() {
        outlook.look(town);
        int period = outlook.periodLength();
        for (int n = 1; n < period; n++) {
            outlook.step();
            if (outlook.rightStreets() == town.streets) {
                return n;
            }
        }
        return period;
    }

    public long when(int tray)
            throws NoSuchElementException, IllegalStateException, IllegalArgumentException {
        Tray told = needTray(tray);
        needToldSigns(told, MOST_TOLD_SIGNS);
        outlook.look(town);
        int period = outlook.periodLength();
        for (int n = 0; n < period; n++) {
            if (outlook.allHang(told)) {
                return n;
            }
            outlook.step();
        }
        return NONE;
    }

    public long follows(int s, int t) throws NoSuchElementException, IllegalArgumentException {
        needTwoStreets(s, t);
        outlook.look(town);
        // Signs that meet so at any time do so now: all of them go on alike from MOVE to MOVE.
        return outlook.ahead(t, 1) == s ? 0 : NONE;
    }

    public int again(int s) throws NoSuchElementException {
        needStreet(s);
        outlook.look(town);
        int name = at(outlook.names, s);
        int source = at(outlook.from, s);
        int n = 1;
        while (n < MOST_STREETS && at(outlook.names, source) != name) {
            source = at(outlook.from, source);
            n++;
        }
        return n;
    }

    public int beside(int s, int t) throws NoSuchElementException, IllegalArgumentException {
        needTwoStreets(s, t);
        outlook.look(town);
        int period = outlook.periodLength();
        int first = s;
        int second = t;
        int many = 0;
        for (int n = 0; n < period; n++) {
            if (Math.abs(first - second) == 1) {
                many++;
            }
            first = at(outlook.to, first);
            second = at(outlook.to, second);
        }
        return many;
    }

    public int visits(int name, int n) throws NoSuchElementException, IllegalArgumentException {
        needName(name);
        needWithin(n, 0, MOST_AHEAD);
        outlook.look(town);
        int visited = 0;
        for (int s = 0; s < town.streets; s++) {
            if (at(town.names, s) == name) {
                visited |= outlook.visitedBy(s, n);
            }
        }
        return visited;
    }

    public int under(int p, int n) throws NoSuchElementException, IllegalArgumentException {
        needPerson(p);
        needWithin(n, 0, MOST_AHEAD);
        outlook.look(town);
        return outlook.namesOn(at(town.livesOn, p), n);
    }

    // ---- letters

    public int home(int tray, int what)
            throws NoSuchElementException, IllegalStateException, IllegalArgumentException {
        Tray told = needTray(tray);
        needToldSigns(told, MOST_LETTERS);
        if (what != 0) {
            needWithin(what, FIRST_PLACE, FIRST_PLACE + told.size - 1);
        }
        outlook.look(town);
        letters.clear();
        for (int i = 0; i < told.size; i++) {
            int sign = (int) told.get(i);
            letters.add(outlook.nightsOf(sign / MOST_STREETS, sign % MOST_STREETS, LETTER_NIGHTS - 1));
        }
        int latest = letters.bringAll();
        return what == 0 ? latest : letters.nightOf(what - FIRST_PLACE);
    }

    public int written(int name, int s, int t) throws NoSuchElementException, IllegalArgumentException {
        needName(name);
        needStreet(s);
        needWithin(t, 0, OLDEST_MAP);
        outlook.look(town);
        int source = s;
        int many = 0;
        for (int ago = 0; ago <= OLDEST_MAP; ago++) {
            if (ago >= t && at(outlook.names, source) == name) {
                many++;
            }
            source = at(outlook.to, source);
        }
        return many;
    }

    public int served(int p, int name, int what) throws NoSuchElementException, IllegalArgumentException {
        needPerson(p);
        needName(name);
        needWithin(what, 0, 1);
        outlook.look(town);
        int source = at(town.livesOn, p);
        int many = 0;
        int first = NONE;
        for (int n = 0; n < SERVED_NIGHTS; n++) {
            if (at(outlook.names, source) == name) {
                first = many == 0 ? n : first;
                many++;
            }
            source = at(outlook.from, source);
        }
        return what == 0 ? many : first;
    }

    public int findsIn(int name, int house, int n) throws NoSuchElementException, IllegalArgumentException {
        needName(name);
        needHouse(house);
        needReach(n);
        outlook.look(town);
        outlook.leap(n);
        return town.peopleIn(house, outlook.streetsThen(name));
    }

    // ---- maps

    public int right(int n) throws IllegalArgumentException {
        needReach(n);
        outlook.look(town);
        outlook.leap(n);
        return outlook.rightStreets();
    }

    public int rightDays(int k, int n) throws IllegalArgumentException {
        needWithin(n, 0, MOST_AHEAD);
        if (k < 0) {
            throw new IllegalArgumentException("no map is right for so few streets");
        }
        outlook.look(town);
        int many = 0;
        for (int i = 0; i < n; i++) {
            outlook.step();
            if (outlook.rightStreets() >= k) {
                many++;
            }
        }
        return many;
    }

    public int harm(int n) throws IllegalArgumentException {
        needReach(n);
        outlook.look(town);
        outlook.leap(n);
        return outlook.harmThen();
    }

    public int leastHarm(int n) throws IllegalArgumentException {
        needWithin(n, 1, MOST_AHEAD);
        outlook.look(town);
        outlook.step();
        int best = 1;
        int least = outlook.harmThen();
        // No HARM can be less than 0, which comes with the PERIOD's end at the latest.
        for (int i = 2; i <= n && least > 0; i++) {
            outlook.step();
            int harm = outlook.harmThen();
            if (harm < least) {
                least = harm;
                best = i;
            }
        }
        return best;
    }

    // ---- signs

    public int errors(int tray, int what)
            throws NoSuchElementException, IllegalStateException, IllegalArgumentException {
        Tray seen = needTray(tray);
        needNames(seen, NONE);
        needWithin(what, 0, 2);
        outlook.look(town);
        int period = outlook.periodLength();
        int best = 0;
        int wrong = outlook.streetsUnlike(seen);
        for (int n = 1; n < period; n++) {
            outlook.step();
            int unlike = outlook.streetsUnlike(seen);
            if (Integer.bitCount(unlike) < Integer.bitCount(wrong)) {
                wrong = unlike;
                best = n;
            }
        }
        switch (what) {
            case 0: return Integer.bitCount(wrong);
            case 1: return best;
            default: return wrong;
        }
    }

    public int ink(int tray)
            throws NoSuchElementException, IllegalStateException, IllegalArgumentException {
        Tray wanted = needTray(tray);
        needNames(wanted, 0);
        int many = 0;
        for (int s = 0; s < town.streets; s++) {
            if (wanted.get(s) != at(town.names, s)) {
                many++;
            }
        }
        return many;
    }

    public int changes(int tray)
            throws NoSuchElementException, IllegalStateException, IllegalArgumentException {
        Tray wanted = needTray(tray);
        needNames(wanted, 0);
        if (town.sharedNames() != 0) {
            return -2;
        }
        return town.fewestChanges(wanted);
    }

    public int twice() {
        return town.sharedNames();
    }

    public int lost() {
        return town.lostNames();
    }

    // ---- trays, images

    public void tray(int tray, int sort, int many) throws NoSuchElementException, IllegalArgumentException {
        if (tray < 0 || tray >= trays.length) {
            throw new NoSuchElementException("no such tray");
        }
        needWithin(sort, 0, SORTS - 1);
        needWithin(many, 0, MOST_NUMBERS);
        Tray row = trays[tray];
        if (row == null) {
            row = new Tray();
            trays[tray] = row;
        }
        row.empty(sort, many);
    }

    public long write(int tray, int place, long v)
            throws NoSuchElementException, IllegalStateException, IndexOutOfBoundsException {
        Tray row = needTray(tray);
        if (place < 0 || place >= row.size) {
            throw new IndexOutOfBoundsException("the tray has no such place");
        }
        row.set(place, v);
        return row.get(place);
    }

    public int copy(int tray) throws NoSuchElementException, IllegalStateException {
        Tray row = needTray(tray);
        int many = Math.min(row.size, town.streets);
        for (int s = 0; s < many; s++) {
            row.set(s, at(town.names, s));
        }
        return many;
    }

    public void image(int i) throws NoSuchElementException {
        if (i < 0 || i >= images.length) {
            throw new NoSuchElementException("no such image");
        }
        Town kept = images[i];
        if (kept == null) {
            kept = new Town();
            images[i] = kept;
        }
        kept.takeOver(town);
    }

    public void restore(int i) throws NoSuchElementException, IllegalStateException {
        if (i < 0 || i >= images.length) {
            throw new NoSuchElementException("no such image");
        }
        Town kept = images[i];
        if (kept == null) {
            throw new IllegalStateException("no such image was made");
        }
        town.takeOver(kept);
    }

    public int count(int what) {
        switch (what) {
            case 0: return town.lines;
            case 1: return town.streets;
            case 2: return town.rounds.many;
            case 3: return town.people;
            case 4: return town.houses;
            case 5: return town.day;
            case 6: return town.moved;
            case 7: return Integer.bitCount(town.blindStreets);
            case 8: return town.wrongStreets();
            case 9: return town.deeds.many;
            case 10: return reader.tapeSize;
            default: return NONE;
        }
    }

    // ---- what the calls need

    private void needStreet(int s) {
        if (s < 0 || s >= town.streets) {
            throw new NoSuchElementException("no such street");
        }
    }

    private void needTwoStreets(int s, int t) {
        needStreet(s);
        needStreet(t);
        if (s == t) {
            throw new IllegalArgumentException("both streets are one");
        }
    }

    private void needName(int name) {
        if (name < 0 || name >= town.streets) {
            throw new NoSuchElementException("no such name");
        }
    }

    private void needRound(int r) {
        if (r < 0 || r >= town.rounds.many) {
            throw new NoSuchElementException("no such round");
        }
    }

    private void needPerson(int p) {
        if (p < 0 || p >= town.people) {
            throw new NoSuchElementException("no such person");
        }
    }

    private void needHouse(int house) {
        needWithin(house, 1, town.houses);
    }

    private void needReach(int n) {
        needWithin(n, -FARTHEST, FARTHEST);
    }

    private void needWithin(int n, int least, int most) {
        if (n < least || n > most) {
            throw new IllegalArgumentException("a number is out of its bounds");
        }
    }

    private Tray needTray(int tray) {
        if (tray < 0 || tray >= trays.length) {
            throw new NoSuchElementException("no such tray");
        }
        Tray row = trays[tray];
        if (row == null) {
            throw new IllegalStateException("the tray is missing");
        }
        return row;
    }

    /** Numbers of the form 20 times a NAME and a STREET: from one up to so many. */
    private void needToldSigns(Tray told, int most) {
        needWithin(told.size, 1, most);
        for (int i = 0; i < told.size; i++) {
            long sign = told.get(i);
            if (sign < 0 || sign % MOST_STREETS >= town.streets || sign / MOST_STREETS >= town.streets) {
                throw new IllegalArgumentException("a number is no name and street");
            }
        }
    }

    /** As many numbers as STREETS, each a NAME, or NONE where that is the least. */
    private void needNames(Tray names, int least) {
        needWithin(names.size, town.streets, town.streets);
        for (int s = 0; s < names.size; s++) {
            long name = names.get(s);
            if (name < least || name >= town.streets) {
                throw new IllegalArgumentException("a number is no name");
            }
        }
    }

    // ---- told and drawn deeds

    /** How many TOLD DEEDS come ahead of the first that can't be: no deed before it changes that. */
    private int doable(Tray told) {
        int many = 0;
        while (many < told.size && town.troubleOf(told.get(many)) == 0) {
            many++;
        }
        return many;
    }

    /** Does the first of the TOLD DEEDS in a town: how many NIGHTS of them MOVED. */
    private int doTold(Tray told, int many, Town target) {
        int moved = 0;
        for (int i = 0; i < many; i++) {
            int deed = (int) told.get(i);
            int first = deed % TOLD_CHANGES % MOST_STREETS;
            int second = deed % TOLD_CHANGES / MOST_STREETS;
            if (deed == NONE) {
                moved += target.passNights(1, outlook);
            } else if (deed < TOLD_CHANGES) {
                target.hangSign(first, second);
            } else {
                target.exchangeSigns(first, second);
            }
        }
        return moved;
    }

    /** Does one drawn deed of a MONTH, if it can be. */
    private boolean doDrawn() {
        int kind = drawBelow(4);
        if (kind < 2) {
            town.passNights(1, outlook);
            return true;
        }
        int first = drawBelow(town.streets);
        int second = drawBelow(town.streets);
        if (kind == 2) {
            town.hangSign(first, second);
            return true;
        }
        if (first == second) {
            return false;
        }
        town.exchangeSigns(first, second);
        return true;
    }

    private int drawBelow(int bound) {
        drawn = 1103515245 * drawn + 12345;
        return bound > 0 ? (drawn >>> 16) % bound : 0;
    }

    // ---- rows of numbers: every index is looked at here

    private static int at(int[] row, int i) {
        return i >= 0 && i < row.length ? row[i] : 0;
    }

    private static void put(int[] row, int i, int v) {
        if (i >= 0 && i < row.length) {
            row[i] = v;
        }
    }

    private static void fillFrom(int[] row, int[] source) {
        System.arraycopy(source, 0, row, 0, Math.min(row.length, source.length));
    }

    /** The words and signs of the text, with what the law's ones are in the law. */
    private enum Token {
        END("", 0), BAD("", 0), NUMBER("", 0), STRANGE_WORD("", 0),
        STREETS("streets", 0), ROUND("round", 0), BACK("back", 0), BY("by", 0), BLIND("blind", 0),
        PERSON("person", 0), SIGN("sign", 0), HOUSES("houses", 0), REST("rest", 0),
        SEMICOLON(";", 0), COLON(":", 0), OPEN("(", 0), CLOSE(")", 0),
        OPEN_TRUTH("[", 0), CLOSE_TRUTH("]", 0),
        OR("or", LAW_OR), AND("and", LAW_AND), NOT("not", LAW_NOT),
        EQUAL("=", LAW_EQUAL), BELOW("<", LAW_BELOW), ABOVE(">", LAW_ABOVE),
        PLUS("+", LAW_PLUS), LESS("-", LAW_LESS), TIMES("*", LAW_TIMES),
        DAY("day", LAW_DAY), WEEK("week", LAW_WEEK), MOVED("moved", LAW_MOVED),
        PEOPLE("people", LAW_PEOPLE), WRONG("wrong", LAW_WRONG);

        final String text;
        final int law;

        Token(String text, int law) {
            this.text = text;
            this.law = law;
        }

        boolean isReading() {
            return law <= LAW_DAY && law >= LAW_WRONG;
        }

        boolean isComparison() {
            return law <= LAW_EQUAL && law >= LAW_ABOVE;
        }
    }

    /** The tape, and a town read from it up to the first FAULT. */
    private static final class Reader {
        private final int[] tape = new int[MOST_BYTES];
        int tapeSize;
        int fault;
        int faultPlace = NONE;
        private int length;
        private int start;
        private int next;
        private int value;
        private Token token = Token.END;

        int append(int a, int b, int c, int d, int e) {
            if (tapeSize > MOST_BYTES - BYTES_A_FEED) {
                return NONE;
            }
            appendFour(a);
            appendFour(b);
            appendFour(c);
            appendFour(d);
            appendFour(e);
            return tapeSize;
        }

        private void appendFour(int bytes) {
            for (int shift = 24; shift >= 0; shift -= 8) {
                put(tape, tapeSize, bytes >>> shift & 255);
                tapeSize++;
            }
        }

        void read(int n, Town into) {
            length = Math.min(n, tape.length);
            tapeSize = 0;
            next = 0;
            fault = 0;
            faultPlace = NONE;
            into.clear();
            advance();
            take(Token.STREETS);
            into.settle(takeNumber(1, MOST_STREETS));
            endLine(into);
            for (int i = 0; i < MOST_BYTES && fault == 0 && token != Token.END; i++) {
                readLine(into);
            }
        }

        private void readLine(Town into) {
            if (token == Token.ROUND) {
                readRound(into);
            } else if (token == Token.BLIND) {
                advance();
                into.makeBlind(takeNumber(0, into.streets - 1));
            } else if (token == Token.PERSON) {
                readPerson(into);
            } else if (token == Token.SIGN) {
                advance();
                int s = takeNumber(0, into.streets - 1);
                put(into.names, s, takeNumber(0, into.streets - 1));
            } else if (token == Token.HOUSES && into.people == 0) {
                advance();
                into.houses = takeNumber(1, MOST_HOUSES);
            } else if (token == Token.REST) {
                advance();
                into.law.clear();
                readTruth(into.law, 0);
            } else {
                refuse(FAULT_MISPLACED);
            }
            endLine(into);
        }

        private void endLine(Town into) {
            take(Token.SEMICOLON);
            into.lines++;
        }

        private void readRound(Town into) {
            if (into.rounds.many == MOST_ROUNDS) {
                refuse(FAULT_TOO_MANY);
                return;
            }
            advance();
            int way = 1;
            if (token == Token.BACK) {
                advance();
                way = -1;
            }
            int by = 1;
            if (token == Token.BY) {
                advance();
                by = takeNumber(1, MOST_BY);
            }
            take(Token.COLON);
            int r = into.rounds.begin(way * by);
            for (int k = 0; k <= MOST_STREETS && fault == 0 && (k == 0 || token == Token.NUMBER); k++) {
                readStop(into, r, k);
            }
        }

        private void readStop(Town into, int r, int k) {
            int s = value;
            boolean known = token == Token.NUMBER && into.rounds.placeOf(r, s) != NONE;
            if (known) {
                refuse(FAULT_BOUNDS);
                return;
            }
            takeNumber(0, into.streets - 1);
            if (fault == 0) {
                into.rounds.insert(r, k, s);
            }
        }

        private void readPerson(Town into) {
            if (into.people == MOST_PEOPLE) {
                refuse(FAULT_TOO_MANY);
                return;
            }
            advance();
            int s = takeNumber(0, into.streets - 1);
            into.addPerson(s, takeNumber(1, into.houses));
        }

        private void readTruth(Law law, int depth) {
            readBoth(law, depth);
            for (int i = 0; i < MOST_BYTES && fault == 0 && token == Token.OR; i++) {
                advance();
                readBoth(law, depth);
                law.add(LAW_OR);
            }
        }

        private void readBoth(Law law, int depth) {
            readUnit(law, depth);
            for (int i = 0; i < MOST_BYTES && fault == 0 && token == Token.AND; i++) {
                advance();
                readUnit(law, depth);
                law.add(LAW_AND);
            }
        }

        private void readUnit(Law law, int depth) {
            if (token == Token.NOT) {
                if (enters(depth)) {
                    readUnit(law, depth + 1);
                    law.add(LAW_NOT);
                }
            } else if (token == Token.OPEN_TRUTH) {
                if (enters(depth)) {
                    readTruth(law, depth + 1);
                    take(Token.CLOSE_TRUTH);
                }
            } else {
                readSum(law, depth);
                int sign = token.law;
                if (!token.isComparison()) {
                    refuse(FAULT_MISPLACED);
                }
                if (fault == 0) {
                    advance();
                    readSum(law, depth);
                    law.add(sign);
                }
            }
        }

        private void readSum(Law law, int depth) {
            readTerm(law, depth);
            for (int i = 0; i < MOST_BYTES && fault == 0
                    && (token == Token.PLUS || token == Token.LESS); i++) {
                int sign = token.law;
                advance();
                readTerm(law, depth);
                law.add(sign);
            }
        }

        private void readTerm(Law law, int depth) {
            readAtom(law, depth);
            for (int i = 0; i < MOST_BYTES && fault == 0 && token == Token.TIMES; i++) {
                advance();
                readAtom(law, depth);
                law.add(LAW_TIMES);
            }
        }

        private void readAtom(Law law, int depth) {
            if (token == Token.NUMBER) {
                law.add(value);
                advance();
            } else if (token.isReading()) {
                law.add(token.law);
                advance();
            } else if (token != Token.OPEN) {
                refuse(FAULT_MISPLACED);
            } else if (enters(depth)) {
                readSum(law, depth + 1);
                take(Token.CLOSE);
            }
        }

        /** Goes into a not, [ or (, unless so many as may be are open already. */
        private boolean enters(int depth) {
            if (depth >= MOST_NESTED) {
                refuse(FAULT_TOO_MANY);
                return false;
            }
            advance();
            return true;
        }

        private void take(Token wanted) {
            if (token != wanted) {
                refuse(FAULT_MISPLACED);
            } else {
                advance();
            }
        }

        private int takeNumber(int least, int most) {
            int n = value;
            if (token != Token.NUMBER) {
                refuse(FAULT_MISPLACED);
            } else if (n < least || n > most) {
                refuse(FAULT_BOUNDS);
            } else {
                advance();
            }
            return n;
        }

        /** Only the first FAULT counts; a TOKEN that is none is that before all else. */
        private void refuse(int kind) {
            if (fault == 0) {
                fault = token == Token.BAD ? FAULT_NO_TOKEN : kind;
                faultPlace = start;
            }
        }

        /** Goes on to the next TOKEN; behind a FAULT all stays where it is. */
        private void advance() {
            if (fault != 0) {
                return;
            }
            while (next < length && next < tape.length && (tape[next] == ' ' || tape[next] == '\n')) {
                next++;
            }
            start = next;
            int letters = endOfRun('a', 'z');
            int digits = endOfRun('0', '9');
            if (start >= length) {
                token = Token.END;
            } else if (letters > start) {
                next = letters;
                token = spelled(Token.STRANGE_WORD);
            } else if (digits > start) {
                next = digits;
                token = digits - start > MOST_DIGITS ? Token.BAD : Token.NUMBER;
                value = numberRead();
            } else {
                next = start + 1;
                token = spelled(Token.BAD);
            }
        }

        private int endOfRun(int lowest, int highest) {
            int end = start;
            while (end < length && end < tape.length && tape[end] >= lowest && tape[end] <= highest) {
                end++;
            }
            return end;
        }

        private int numberRead() {
            int n = 0;
            for (int i = start; i < next && i < start + MOST_DIGITS && i < tape.length; i++) {
                n = n * 10 + tape[i] - '0';
            }
            return n;
        }

        /** The TOKEN that is written from the start to the next one's. */
        private Token spelled(Token otherwise) {
            for (int k = 0; k < TOKENS.length; k++) {
                String text = TOKENS[k].text;
                int same = 0;
                while (same < text.length() && start + same < next && start + same < tape.length
                        && text.charAt(same) == tape[start + same]) {
                    same++;
                }
                if (same == text.length() && start + same == next) {
                    return TOKENS[k];
                }
            }
            return otherwise;
        }
    }

    /** The law, its operators behind what they reckon with. */
    private static final class Law {
        private static final int KEPT = 1000000;

        private final int[] signs = new int[MOST_BYTES];
        private final int[] stack = new int[2 * MOST_STREETS];
        private int size;

        void clear() {
            size = 0;
        }

        void add(int sign) {
            put(signs, size, sign);
            size = Math.min(size + 1, signs.length);
        }

        void takeOver(Law other) {
            System.arraycopy(other.signs, 0, signs, 0, Math.min(other.size, signs.length));
            size = other.size;
        }

        /** Whether it holds; without signs it never does. */
        boolean holds(int day, int moved, int people, int wrong) {
            int top = 0;
            for (int i = 0; i < size && i < signs.length; i++) {
                int sign = signs[i];
                if (sign >= LAW_WRONG) {
                    put(stack, top, sign >= 0 ? sign : reading(sign, day, moved, people, wrong));
                    top++;
                } else if (sign == LAW_NOT) {
                    put(stack, top - 1, 1 - at(stack, top - 1));
                } else {
                    top--;
                    put(stack, top - 1, reckon(sign, at(stack, top - 1), at(stack, top)));
                }
            }
            return top > 0 && at(stack, 0) != 0;
        }

        private static int reading(int sign, int day, int moved, int people, int wrong) {
            switch (sign) {
                case LAW_DAY: return day;
                case LAW_WEEK: return day % 7;
                case LAW_MOVED: return moved % 1000;
                case LAW_PEOPLE: return people;
                default: return wrong;
            }
        }

        private static int reckon(int sign, int a, int b) {
            switch (sign) {
                case LAW_PLUS: return keep((long) a + b);
                case LAW_LESS: return keep((long) a - b);
                case LAW_TIMES: return keep((long) a * b);
                case LAW_EQUAL: return a == b ? 1 : 0;
                case LAW_BELOW: return a < b ? 1 : 0;
                case LAW_ABOVE: return a > b ? 1 : 0;
                case LAW_AND: return a & b;
                default: return a | b;
            }
        }

        private static int keep(long n) {
            return (int) Math.max(-KEPT, Math.min(KEPT, n));
        }
    }

    /** The ROUNDS with their STREETS; a ROUND that goes back goes by a number below 0. */
    private static final class Rounds {
        private final int[] stops = new int[MOST_ROUNDS * MOST_STREETS];
        private final int[] sizes = new int[MOST_ROUNDS];
        private final int[] bys = new int[MOST_ROUNDS];
        int many;

        void takeOver(Rounds other) {
            fillFrom(stops, other.stops);
            fillFrom(sizes, other.sizes);
            fillFrom(bys, other.bys);
            many = other.many;
        }

        /** Begins a ROUND without STREETS: its number. */
        int begin(int by) {
            int r = many;
            put(sizes, r, 0);
            put(bys, r, by);
            many = Math.min(r + 1, MOST_ROUNDS);
            return r;
        }

        int sizeOf(int r) {
            return at(sizes, r);
        }

        int byOf(int r) {
            return at(bys, r);
        }

        int streetAt(int r, int k) {
            int i = r * MOST_STREETS + k;
            boolean there = r >= 0 && r < sizes.length && k >= 0 && k < sizes[r];
            return there && i < stops.length ? stops[i] : NONE;
        }

        int placeOf(int r, int s) {
            int size = sizeOf(r);
            for (int k = 0; k < size; k++) {
                if (streetAt(r, k) == s) {
                    return k;
                }
            }
            return NONE;
        }

        int roundsOf(int s) {
            int bits = 0;
            for (int r = 0; r < many; r++) {
                if (placeOf(r, s) != NONE) {
                    bits |= 1 << r;
                }
            }
            return bits;
        }

        void insert(int r, int place, int s) {
            int size = sizeOf(r);
            if (size >= MOST_STREETS) {
                return;
            }
            for (int k = size; k > place; k--) {
                put(stops, r * MOST_STREETS + k, streetAt(r, k - 1));
            }
            put(stops, r * MOST_STREETS + place, s);
            put(sizes, r, size + 1);
        }

        void remove(int r, int place) {
            int size = sizeOf(r);
            if (size <= 0) {
                return;
            }
            for (int k = place; k < size - 1; k++) {
                put(stops, r * MOST_STREETS + k, streetAt(r, k + 1));
            }
            put(sizes, r, size - 1);
        }
    }

    /** The latest DEEDS, each with what undoes it. */
    private static final class Deeds {
        private static final int PARTS = 4;

        private final int[] parts = new int[MOST_DEEDS * PARTS];
        int many;

        void takeOver(Deeds other) {
            fillFrom(parts, other.parts);
            many = other.many;
        }

        void note(int kind, int a, int b, int c) {
            if (many >= MOST_DEEDS) {
                System.arraycopy(parts, PARTS, parts, 0, parts.length - PARTS);
                many = MOST_DEEDS - 1;
            }
            put(parts, many * PARTS, kind);
            put(parts, many * PARTS + 1, a);
            put(parts, many * PARTS + 2, b);
            put(parts, many * PARTS + 3, c);
            many++;
        }

        int ofLatest(int part) {
            return at(parts, (many - 1) * PARTS + part);
        }

        void dropLatest() {
            many = Math.max(0, many - 1);
        }
    }

    /** A town as it stands: all that an IMAGE keeps. */
    private static final class Town {
        int lines;
        int streets;
        int houses = HOUSES_AT_FIRST;
        int people;
        int day;
        int moved;
        int blindStreets;
        final int[] names = new int[MOST_STREETS];
        final int[] livesOn = new int[MOST_PEOPLE];
        final int[] livesIn = new int[MOST_PEOPLE];
        final Rounds rounds = new Rounds();
        final Law law = new Law();
        final Deeds deeds = new Deeds();

        void clear() {
            lines = 0;
            streets = 0;
            houses = HOUSES_AT_FIRST;
            people = 0;
            day = 0;
            moved = 0;
            blindStreets = 0;
            rounds.many = 0;
            law.clear();
            deeds.many = 0;
        }

        void takeOver(Town other) {
            lines = other.lines;
            streets = other.streets;
            houses = other.houses;
            people = other.people;
            day = other.day;
            moved = other.moved;
            blindStreets = other.blindStreets;
            fillFrom(names, other.names);
            fillFrom(livesOn, other.livesOn);
            fillFrom(livesIn, other.livesIn);
            rounds.takeOver(other.rounds);
            law.takeOver(other.law);
            deeds.takeOver(other.deeds);
        }

        // ---- as it is told

        void settle(int many) {
            streets = Math.max(0, Math.min(many, MOST_STREETS));
            for (int s = 0; s < streets; s++) {
                put(names, s, s);
            }
        }

        void makeBlind(int s) {
            blindStreets |= 1 << s;
        }

        void addPerson(int s, int house) {
            put(livesOn, people, s);
            put(livesIn, people, house);
            people = Math.min(people + 1, MOST_PEOPLE);
        }

        // ---- as it is

        boolean isBlind(int s) {
            return (blindStreets >> s & 1) != 0;
        }

        int peopleOn(int s) {
            int bits = 0;
            for (int p = 0; p < people; p++) {
                if (at(livesOn, p) == s) {
                    bits |= 1 << p;
                }
            }
            return bits;
        }

        /** PEOPLE who live in that HOUSE of one of the STREETS, which are bits. */
        int peopleIn(int house, int onStreets) {
            int bits = 0;
            for (int p = 0; p < people; p++) {
                if (at(livesIn, p) == house && (onStreets >> at(livesOn, p) & 1) != 0) {
                    bits |= 1 << p;
                }
            }
            return bits;
        }

        int streetsOf(int name) {
            int bits = 0;
            for (int s = 0; s < streets; s++) {
                if (at(names, s) == name) {
                    bits |= 1 << s;
                }
            }
            return bits;
        }

        /** NAMES that hang on two STREETS and more. */
        int sharedNames() {
            int once = 0;
            int shared = 0;
            for (int s = 0; s < streets; s++) {
                int bit = 1 << at(names, s);
                shared |= once & bit;
                once |= bit;
            }
            return shared;
        }

        int lostNames() {
            int missing = (1 << streets) - 1;
            for (int s = 0; s < streets; s++) {
                missing &= ~(1 << at(names, s));
            }
            return missing;
        }

        int wrongStreets() {
            int shared = sharedNames();
            int many = 0;
            for (int s = 0; s < streets; s++) {
                many += shared >> at(names, s) & 1;
            }
            return many;
        }

        /** How many of the coming NIGHTS MOVE; these leave as they are how many STREETS are wrong. */
        int movesAmong(int nights) {
            int wrong = wrongStreets();
            int more = 0;
            for (int i = 0; i < nights; i++) {
                if (!law.holds(day + i, moved + more, people, wrong)) {
                    more++;
                }
            }
            return more;
        }

        int nightsTill(int enough) {
            int wrong = wrongStreets();
            int more = 0;
            for (int i = 0; i < MOST_AHEAD && more < enough; i++) {
                if (!law.holds(day + i, moved + more, people, wrong)) {
                    more++;
                    if (more == enough) {
                        return i + 1;
                    }
                }
            }
            return enough == 0 ? 0 : NONE;
        }

        /** Why a TOLD DEED can't be: 0 if it can. */
        int troubleOf(long deed) {
            if (deed == NONE) {
                return 0;
            }
            if (deed < 0 || deed >= TOLD_END) {
                return TROUBLE_NO_SUCH;
            }
            long first = deed % TOLD_CHANGES % MOST_STREETS;
            long second = deed % TOLD_CHANGES / MOST_STREETS;
            if (first >= streets || second >= streets) {
                return TROUBLE_NO_SUCH;
            }
            return deed >= TOLD_CHANGES && first == second ? TROUBLE_BOTH_ONE : 0;
        }

        /** The fewest changes of two SIGNS till the wanted NAMES hang; the NAMES that hang are all unlike. */
        int fewestChanges(Tray wanted) {
            int missing = (1 << streets) - 1;
            for (int s = 0; s < streets; s++) {
                missing &= ~(1 << (int) wanted.get(s));
            }
            if (missing != 0) {
                return NONE;
            }
            int changes = streets;
            int done = 0;
            for (int s = 0; s < streets; s++) {
                // A ring of so many SIGNS takes one change less than it has SIGNS.
                changes -= 1 - (done >> s & 1);
                int t = s;
                for (int i = 0; i < streets && (done >> t & 1) == 0; i++) {
                    done |= 1 << t;
                    t = streetBearing((int) wanted.get(t));
                }
            }
            return changes;
        }

        private int streetBearing(int name) {
            for (int s = 0; s < streets; s++) {
                if (at(names, s) == name) {
                    return s;
                }
            }
            return 0;
        }

        // ---- deeds

        int passNights(int nights, Outlook outlook) {
            int more = movesAmong(nights);
            goOn(more, outlook);
            day += nights;
            moved += more;
            deeds.note(DEED_NIGHTS, nights, more, 0);
            return more;
        }

        int hangSign(int s, int name) {
            int old = at(names, s);
            put(names, s, name);
            deeds.note(DEED_SIGN, s, old, 0);
            return old;
        }

        void exchangeSigns(int s, int t) {
            swapNames(s, t);
            deeds.note(DEED_CHANGE, s, t, 0);
        }

        int join(int s, int r, int place) {
            rounds.insert(r, place, s);
            deeds.note(DEED_LET_IN, s, r, place);
            return rounds.sizeOf(r);
        }

        int leave(int s, int r) {
            int place = rounds.placeOf(r, s);
            rounds.remove(r, place);
            deeds.note(DEED_TAKEN_OUT, s, r, place);
            return rounds.sizeOf(r);
        }

        int turnBlind(int s) {
            blindStreets ^= 1 << s;
            deeds.note(DEED_BLIND, s, 0, 0);
            return isBlind(s) ? 1 : 0;
        }

        int moveHouse(int p, int s, int house) {
            deeds.note(DEED_HOUSE, p, at(livesOn, p), at(livesIn, p));
            put(livesOn, p, s);
            put(livesIn, p, house);
            return at(names, s);
        }

        void undoLatest(Outlook outlook) {
            int a = deeds.ofLatest(1);
            int b = deeds.ofLatest(2);
            int c = deeds.ofLatest(3);
            switch (deeds.ofLatest(0)) {
                case DEED_NIGHTS:
                    // ROUNDS are here as they were by those NIGHTS, for later DEEDS are undone already.
                    goOn(-b, outlook);
                    day -= a;
                    moved -= b;
                    break;
                case DEED_SIGN:
                    put(names, a, b);
                    break;
                case DEED_CHANGE:
                    swapNames(a, b);
                    break;
                case DEED_LET_IN:
                    rounds.remove(b, c);
                    break;
                case DEED_TAKEN_OUT:
                    rounds.insert(b, c, a);
                    break;
                case DEED_BLIND:
                    blindStreets ^= 1 << a;
                    break;
                case DEED_HOUSE:
                    put(livesOn, a, b);
                    put(livesIn, a, c);
                    break;
                default:
                    break;
            }
            deeds.dropLatest();
        }

        private void goOn(int moves, Outlook outlook) {
            outlook.look(this);
            outlook.leap(moves);
            for (int s = 0; s < streets; s++) {
                put(names, s, outlook.nameThen(s));
            }
        }

        private void swapNames(int s, int t) {
            int name = at(names, s);
            put(names, s, at(names, t));
            put(names, t, name);
        }
    }

    /** How the SIGNS of a town go on by MOVES from when it looks, its ROUNDS staying as they are. */
    private static final class Outlook {
        int streets;
        private int sharedNames;
        /** The NAMES that hang now. */
        final int[] names = new int[MOST_STREETS];
        /** Where a STREET's SIGN goes by a MOVE, and from where its next one comes. */
        final int[] to = new int[MOST_STREETS];
        final int[] from = new int[MOST_STREETS];
        /** Where the SIGN that hangs on a STREET then hangs now. */
        private final int[] source = new int[MOST_STREETS];
        private final int[] open = new int[MOST_STREETS];
        private final int[] next = new int[MOST_STREETS];

        void look(Town town) {
            streets = town.streets;
            sharedNames = town.sharedNames();
            fillFrom(names, town.names);
            for (int s = 0; s < streets; s++) {
                put(source, s, s);
                put(to, s, s);
            }
            for (int r = 0; r < town.rounds.many; r++) {
                goRound(town, r);
            }
            for (int s = 0; s < streets; s++) {
                put(from, at(to, s), s);
            }
        }

        private void goRound(Town town, int r) {
            int many = 0;
            int size = town.rounds.sizeOf(r);
            for (int k = 0; k < size; k++) {
                int s = town.rounds.streetAt(r, k);
                if (!town.isBlind(s)) {
                    put(open, many, s);
                    many++;
                }
            }
            for (int s = 0; s < streets; s++) {
                put(next, s, s);
            }
            int by = town.rounds.byOf(r);
            for (int k = 0; k < many; k++) {
                put(next, at(open, k), at(open, Math.floorMod(k + by, many)));
            }
            for (int s = 0; s < streets; s++) {
                put(to, s, at(next, at(to, s)));
            }
        }

        int cycleOf(int s) {
            int t = at(to, s);
            int n = 1;
            while (n < MOST_STREETS && t != s) {
                t = at(to, t);
                n++;
            }
            return n;
        }

        int periodLength() {
            int period = 1;
            for (int s = 0; s < streets; s++) {
                period = commonMultiple(period, cycleOf(s));
            }
            return period;
        }

        private static int commonMultiple(int a, int b) {
            for (int k = 1; k < b; k++) {
                if (a * k % b == 0) {
                    return a * k;
                }
            }
            return a * b;
        }

        /** Where a STREET's SIGN of now hangs so many MOVES ahead. */
        int ahead(int s, int n) {
            int cycle = cycleOf(s);
            int steps = cycle > 0 ? Math.floorMod(n, cycle) : 0;
            int t = s;
            for (int i = 0; i < steps; i++) {
                t = at(to, t);
            }
            return t;
        }

        /** Looks from now to n MOVES ahead. */
        void leap(int n) {
            for (int s = 0; s < streets; s++) {
                put(source, s, ahead(s, -n));
            }
        }

        /** Looks one MOVE farther ahead. */
        void step() {
            for (int s = 0; s < streets; s++) {
                put(source, s, at(from, at(source, s)));
            }
        }

        int nameThen(int s) {
            return at(names, at(source, s));
        }

        int streetsThen(int name) {
            int bits = 0;
            for (int s = 0; s < streets; s++) {
                if (nameThen(s) == name) {
                    bits |= 1 << s;
                }
            }
            return bits;
        }

        /** How many STREETS bear the same NAME then as now. */
        int rightStreets() {
            int many = 0;
            for (int s = 0; s < streets; s++) {
                if (nameThen(s) == at(names, s)) {
                    many++;
                }
            }
            return many;
        }

        int harmThen() {
            int harm = 0;
            for (int s = 0; s < streets; s++) {
                // A NAME that hangs alone now does so then, for MOVES make and lose no SIGN.
                if ((sharedNames >> nameThen(s) & 1) == 0) {
                    harm += Math.abs(s - at(source, s));
                }
            }
            return harm;
        }

        /** STREETS on which another NAME hangs then than was seen there. */
        int streetsUnlike(Tray seen) {
            int bits = 0;
            for (int s = 0; s < streets; s++) {
                long name = seen.get(s);
                if (name != NONE && name != nameThen(s)) {
                    bits |= 1 << s;
                }
            }
            return bits;
        }

        boolean allHang(Tray told) {
            for (int i = 0; i < told.size; i++) {
                int sign = (int) told.get(i);
                if (nameThen(sign % MOST_STREETS) != sign / MOST_STREETS) {
                    return false;
                }
            }
            return true;
        }

        /** STREETS to which a STREET's SIGN comes by 0 to n MOVES; no cycle is longer than the town. */
        int visitedBy(int s, int n) {
            int bits = 0;
            int t = s;
            for (int i = 0; i <= n && i < MOST_STREETS; i++) {
                bits |= 1 << t;
                t = at(to, t);
            }
            return bits;
        }

        /** NAMES that a STREET bears by 0 to n MOVES. */
        int namesOn(int s, int n) {
            int bits = 0;
            int t = s;
            for (int i = 0; i <= n && i < MOST_STREETS; i++) {
                bits |= 1 << at(names, t);
                t = at(from, t);
            }
            return bits;
        }

        /** By which of 0 to n MOVES (below 64) the NAME hangs on a STREET, as bits. */
        long nightsOf(int name, int s, int n) {
            long bits = 0;
            int t = s;
            for (int i = 0; i <= n; i++) {
                if (at(names, t) == name) {
                    bits |= 1L << i;
                }
                t = at(from, t);
            }
            return bits;
        }
    }

    /** Letters that wait for NIGHTS on which they are HOME, one a NIGHT. */
    private static final class Letters {
        private final long[] nights = new long[MOST_LETTERS];
        private final int[] brought = new int[MOST_LETTERS];
        private int many;

        void clear() {
            many = 0;
        }

        /** A letter that is HOME on these NIGHTS, which are bits. */
        void add(long homeNights) {
            if (many < nights.length) {
                nights[many] = homeNights;
                put(brought, many, NONE);
                many++;
            }
        }

        int nightOf(int letter) {
            return at(brought, letter);
        }

        /** Brings all of them: on which NIGHT the latest; NONE, and none is brought, if they can't be. */
        int bringAll() {
            int latest = earliestEnd();
            if (latest != NONE) {
                for (int k = 0; k < many; k++) {
                    keep(k, (2L << latest) - 1);
                }
                for (int k = 0; k < many; k++) {
                    bring(k);
                }
            }
            return latest;
        }

        /**
         * By Hall's theorem each letter gets a NIGHT of its own if any so many letters have as many
         * NIGHTS among them: so the end comes when the last of all such sets has enough.
         */
        private int earliestEnd() {
            int end = NONE;
            for (int set = 1; set < 1 << many; set++) {
                int enough = bitOf(nightsAmong(set), Integer.bitCount(set));
                if (enough == NONE) {
                    return NONE;
                }
                end = Math.max(end, enough);
            }
            return end;
        }

        /** Brings a letter as soon as the ones behind it allow: sets with just enough NIGHTS need them all. */
        private void bring(int k) {
            long needed = 0;
            for (int set = 1; set < 1 << (many - k - 1); set++) {
                long among = nightsAmong(set << (k + 1));
                if (Long.bitCount(among) == Integer.bitCount(set)) {
                    needed |= among;
                }
            }
            long free = k >= 0 && k < nights.length ? nights[k] & ~needed : 0;
            put(brought, k, bitOf(free, 1));
            for (int j = k + 1; j < many; j++) {
                keep(j, ~(free & -free));
            }
        }

        private void keep(int k, long bits) {
            if (k >= 0 && k < nights.length) {
                nights[k] &= bits;
            }
        }

        private long nightsAmong(int set) {
            long among = 0;
            for (int k = 0; k < many && k < nights.length; k++) {
                if ((set >> k & 1) != 0) {
                    among |= nights[k];
                }
            }
            return among;
        }

        /** The number of the k-th of the bits from the lowest on (NONE: not so many). */
        private static int bitOf(long bits, int k) {
            long left = bits;
            for (int i = 1; i < k; i++) {
                left &= left - 1;
            }
            return left == 0 ? NONE : Long.bitCount((left & -left) - 1);
        }
    }

    /** A row of numbers of one sort. */
    private static final class Tray {
        private final long[] numbers = new long[MOST_NUMBERS];
        private int sort;
        int size;

        void empty(int newSort, int many) {
            sort = newSort;
            size = Math.min(many, numbers.length);
            for (int i = 0; i < numbers.length; i++) {
                numbers[i] = 0;
            }
        }

        long get(int i) {
            return i >= 0 && i < size && i < numbers.length ? numbers[i] : 0;
        }

        void set(int i, long v) {
            if (i >= 0 && i < size && i < numbers.length) {
                numbers[i] = cut(v);
            }
        }

        private long cut(long v) {
            switch (sort) {
                case 0: return (byte) v;
                case 1: return (short) v;
                case 2: return (int) v;
                default: return v;
            }
        }
    }
}
