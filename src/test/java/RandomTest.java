import java.lang.reflect.InvocationTargetException;
import java.lang.reflect.Method;
import java.util.ArrayList;
import java.util.List;
import java.util.Random;

/** Long runs of drawn calls, on the program and on PlainNames: both answer alike, throws too. */
public final class RandomTest {
    private final Random random;
    private final MovingNames real = new MovingNames();
    private final PlainNames plain = new PlainNames();
    private final List<String> told = new ArrayList<>();
    private int calls = 0;
    private int tape = 0;

    private RandomTest(long seed) {
        random = new Random(seed);
    }

    public static void main(String[] args) throws Exception {
        int runs = args.length > 0 ? Integer.parseInt(args[0]) : 150;
        long from = args.length > 1 ? Long.parseLong(args[1]) : 1;
        for (long seed = from; seed < from + runs; seed++) {
            new RandomTest(seed).run();
            new RandomTest(seed).runTowns();
        }
        System.out.println("RandomTest: " + runs + " runs agree");
    }

    private void run() throws Exception {
        if (random.nextInt(20) > 0) newTown();
        // an object is used for 512 calls at most, a town or a tray takes some fifty of them
        while (calls < 460) {
            int kind = random.nextInt(100);
            if (kind < 2) newTown();
            else if (kind < 12) fillTray();
            else anyCall();
        }
    }

    /** Towns alone, most of them with faults. */
    private void runTowns() throws Exception {
        while (calls < 460) newTown();
    }

    private int upTo(int most) { return random.nextInt(most + 1); }
    private int streets() { return Math.max(1, plain.count(1)); }

    private Object call(String name, Object... args) throws Exception {
        calls++;
        Method[] both = {null, null};
        for (Method m : MovingNames.class.getDeclaredMethods()) if (m.getName().equals(name) && java.lang.reflect.Modifier.isPublic(m.getModifiers())) both[0] = m;
        for (Method m : PlainNames.class.getDeclaredMethods()) if (m.getName().equals(name) && java.lang.reflect.Modifier.isPublic(m.getModifiers())) both[1] = m;
        String a = answer(both[0], real, args);
        String b = answer(both[1], plain, args);
        told.add(name + java.util.Arrays.toString(args) + " -> " + a);
        if (!a.equals(b)) {
            for (String t : told) System.out.println(t);
            System.out.println("PlainNames answers " + b);
            System.exit(1);
        }
        return a;
    }

    private static String answer(Method m, Object on, Object[] args) throws Exception {
        try {
            return String.valueOf(m.invoke(on, args));
        } catch (InvocationTargetException e) {
            return e.getCause().getClass().getName();
        }
    }

    // ---- towns

    private void newTown() throws Exception {
        String text = text();
        if (text.length() > 900) text = text.substring(0, 900);
        told.add("text: " + text);
        for (int i = 0; i < text.length(); i += 20) {
            int[] five = new int[5];
            for (int k = 0; k < 20; k++) {
                char c = i + k < text.length() ? text.charAt(i + k) : ' ';
                five[k / 4] |= (c & 255) << (3 - k % 4) * 8;
            }
            call("feed", five[0], five[1], five[2], five[3], five[4]);
        }
        int all = plain.count(10);
        call("town", random.nextInt(20) == 0 ? upTo(all + 2) - 1 : Math.min(all, text.length()));
        call("fault", 0);
        call("fault", 1);
        call("count", 0);
    }

    private String text() {
        int streets = 1 + (random.nextBoolean() ? upTo(5) : upTo(19));
        StringBuilder text = new StringBuilder("streets " + streets + ";");
        int lines = upTo(9);
        for (int i = 0; i < lines; i++) text.append(line(streets)).append(";");
        if (random.nextInt(3) == 0) spoil(text);
        return text.toString();
    }

    private String line(int streets) {
        switch (random.nextInt(8)) {
            case 0: return "blind " + number(streets);
            case 1: return "person " + number(streets) + " " + (1 + upTo(6));
            case 2: return "sign " + number(streets) + " " + number(streets);
            case 3: return random.nextInt(4) > 0 ? "person  0 " + (1 + upTo(8)) : "houses " + (1 + upTo(98));
            case 4: return "rest " + truth(0);
            default: return round(streets);
        }
    }

    private int number(int below) { return random.nextInt(below); }

    private String round(int streets) {
        StringBuilder text = new StringBuilder("round");
        if (random.nextBoolean()) text.append(" back");
        if (random.nextBoolean()) text.append(" by ").append(1 + upTo(8));
        text.append(":");
        List<Integer> all = new ArrayList<>();
        for (int s = 0; s < streets; s++) all.add(s);
        java.util.Collections.shuffle(all, random);
        int many = 1 + upTo(streets - 1);
        for (int k = 0; k < many; k++) text.append(random.nextInt(9) == 0 ? "\n" : " ").append(all.get(k));
        return text.toString();
    }

    private String truth(int depth) {
        int kind = random.nextInt(depth > 4 ? 4 : 12);
        if (kind == 5) return truth(depth + 1) + " or " + truth(depth + 1);
        if (kind == 6) return truth(depth + 1) + " and " + truth(depth + 1);
        if (kind == 7) return "not " + truth(depth + 1);
        if (kind == 8) return "[" + truth(depth + 1) + "]";
        return sum(depth + 1) + "=<>".charAt(random.nextInt(3)) + sum(depth + 1);
    }

    private String sum(int depth) {
        int kind = random.nextInt(depth > 4 ? 4 : 10);
        if (kind == 4) return sum(depth + 1) + "+" + sum(depth + 1);
        if (kind == 5) return sum(depth + 1) + " - " + sum(depth + 1);
        if (kind == 6) return sum(depth + 1) + "*" + sum(depth + 1);
        if (kind == 7) return "(" + sum(depth + 1) + ")";
        String[] atoms = {"day", "week", "moved", "people", "wrong", "999", "" + upTo(7), "" + upTo(20)};
        return atoms[random.nextInt(atoms.length)];
    }

    private void spoil(StringBuilder text) {
        String[] bad = {"", ";", " ", "1", "99", "7777", "(", "[", "not ", "round", "A", "\u00e9", "\t", "streets",
            "houses 3;", "person 0 1;", "back", "by", ":", "x", "rest", "or", "=", ")", "]", "\n", "-", "*", "and", "\u0000"};
        int times = 1 + upTo(1);
        for (int i = 0; i < times; i++) {
            int at = upTo(text.length());
            if (random.nextBoolean() && at < text.length()) text.deleteCharAt(at);
            text.insert(Math.min(at, text.length()), bad[random.nextInt(bad.length)]);
        }
    }

    // ---- trays

    private void fillTray() throws Exception {
        int tray = upTo(3);
        int n = streets();
        int kind = random.nextInt(6);
        int many = kind == 0 ? upTo(30) : kind < 3 ? 1 + upTo(7) : n;
        int sort = random.nextInt(5) > 0 ? 1 + upTo(2) : upTo(3);
        call("tray", tray, sort, many);
        List<Integer> all = new ArrayList<>();
        for (int s = 0; s < n; s++) all.add(s);
        java.util.Collections.shuffle(all, random);
        if (kind == 3) {
            call("copy", tray);
            if (random.nextBoolean()) return;
        }
        for (int i = 0; i < many; i++) {
            long v = 0;
            if (kind == 0) v = random.nextInt(4) == 0 ? -1 : random.nextInt(820) - 2;
            else if (kind == 1) v = letter(n);
            else if (kind == 2) v = random.nextBoolean() ? 20 * number(n) + number(n) : random.nextInt(3) == 0 ? -1 : 400 + 20 * number(n) + number(n);
            else if (kind == 3) { if (random.nextInt(4) > 0) continue; v = random.nextBoolean() ? -1 : number(n); }
            else if (kind == 4) v = all.get(i);
            else v = random.nextInt(30) == 0 ? random.nextLong() : number(n);
            call("write", tray, i, v);
        }
        if (kind == 0) call("perform", tray);
        if (kind == 1) { call("when", tray); for (int k = 0; k < many + 1; k++) call("home", tray, k == 0 ? 0 : 9 + k); }
        if (kind == 2) { for (int k = 0; k < 4; k++) call("judge", tray, k); call("perform", tray); }
        if (kind >= 3) { for (int k = 0; k < 3; k++) call("errors", tray, k); call("ink", tray); call("changes", tray); }
    }

    /** A NAME and a STREET to which it comes, mostly, if it hangs anywhere. */
    private long letter(int n) throws Exception {
        int name = number(n);
        int s = number(n);
        if (plain.count(1) == 0 || random.nextInt(15) == 0) return 20 * name + s;
        int visits = Integer.parseInt((String) call("visits", name, 999));
        for (int i = 0; i < n && (visits >> s & 1) == 0; i++) s = (s + 1) % n;
        return 20 * name + s;
    }

    // ---- calls

    private static final String[] NAMES = {"fault", "street", "round", "person", "where", "finds", "nameIn", "goesTo",
        "nights", "rests", "movesIn", "nightsFor", "hang", "change", "letIn", "takeOut", "blind", "moves", "undo",
        "judge", "perform", "month", "period", "asNow", "when", "follows", "again", "beside", "visits", "under",
        "home", "written", "served", "findsIn", "right", "rightDays", "harm", "leastHarm", "errors", "ink", "changes",
        "twice", "lost", "write", "copy", "image", "restore", "count", "tray"};

    private void anyCall() throws Exception {
        String name = NAMES[random.nextInt(NAMES.length)];
        if (name.equals("nightsFor") && random.nextInt(4) > 0) name = "undo";
        if (name.equals("tray") && random.nextInt(4) > 0) name = "period";
        Method m = null;
        for (Method each : PlainNames.class.getDeclaredMethods()) if (each.getName().equals(name) && java.lang.reflect.Modifier.isPublic(each.getModifiers())) m = each;
        Object[] args = new Object[m.getParameterCount()];
        for (int i = 0; i < args.length; i++) {
            if (m.getParameterTypes()[i] == long.class) args[i] = random.nextLong() >> random.nextInt(64);
            else args[i] = argument(name, i);
        }
        call(name, args);
    }

    private int argument(String name, int i) {
        int wild = random.nextInt(40);
        if (wild == 0) return random.nextInt();
        if (wild == 1) return -1;
        if (wild == 2) return streets();
        int n = streets();
        switch (name) {
            case "fault": return upTo(3) - 1;
            case "count": return upTo(12) - 1;
            case "round": case "street": if (i == 1) return random.nextBoolean() ? upTo(5) : upTo(32); break;
            case "person": if (i == 1) return upTo(3); break;
            case "judge": if (i == 1) return upTo(4); break;
            case "home": if (i == 1) return upTo(18); break;
            case "errors": if (i == 1) return upTo(3); break;
            case "served": if (i == 2) return upTo(2); break;
            case "nameIn": case "goesTo": if (i == 1) return upTo(20100) - 10050; break;
            case "right": case "harm": return upTo(20100) - 10050;
            case "finds": case "findsIn": if (i == 1) return upTo(10); if (i == 2) return upTo(20100) - 10050; break;
            case "nights": return random.nextInt(3) > 0 ? 1 + upTo(5) : upTo(101);
            case "movesIn": case "leastHarm": return random.nextInt(3) > 0 ? upTo(30) : upTo(1001);
            case "nightsFor": return random.nextInt(3) > 0 ? upTo(30) : upTo(1001);
            case "visits": case "under": if (i == 1) return random.nextInt(3) > 0 ? upTo(30) : upTo(1001); break;
            case "rightDays": return i == 0 ? upTo(n) : random.nextInt(3) > 0 ? upTo(30) : upTo(1001);
            case "undo": return 1 + upTo(3);
            case "month": return i == 0 ? random.nextInt() : upTo(31);
            case "written": if (i == 2) return upTo(101); break;
            case "letIn": if (i == 2) return upTo(5); break;
            case "moves": if (i == 2) return upTo(10); break;
            case "write": if (i == 1) return upTo(30); break;
            case "tray": return i == 1 ? upTo(4) : i == 2 ? upTo(31) : upTo(4);
            default: break;
        }
        boolean person = (name.equals("person") || name.equals("moves") || name.equals("under") || name.equals("served")) && i == 0;
        if (person) return upTo(4);
        if (name.equals("round") || (name.equals("letIn") || name.equals("takeOut")) && i == 1) return upTo(3);
        if (i == 0 && (name.equals("judge") || name.equals("perform") || name.equals("when") || name.equals("home")
                || name.equals("errors") || name.equals("ink") || name.equals("changes") || name.equals("write")
                || name.equals("copy") || name.equals("image") || name.equals("restore"))) return upTo(3);
        return number(n);
    }
}
