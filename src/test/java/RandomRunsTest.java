import java.lang.reflect.InvocationTargetException;
import java.lang.reflect.Method;
import java.lang.reflect.Modifier;
import java.nio.charset.StandardCharsets;
import java.util.ArrayList;
import java.util.Arrays;
import java.util.Comparator;
import java.util.List;
import java.util.Random;

/** Random runs of calls, as many as an object is used for, each answered by the class and by the plain model alike. */
public final class RandomRunsTest {
    static final int RUNS = 260, CALLS = 512;
    static final List<String> DEAR = List.of("basin", "quiet", "learn", "soon", "period");
    static final int[] ODD = {Integer.MIN_VALUE, Integer.MAX_VALUE, -1, -100, 1000, 100000, Due.NONE, Due.BAD, 3000, 65536};

    final Random random;
    final List<Method> methods;
    final CandleTurns x = new CandleTurns();
    final Plain plain = new Plain();
    final List<String> history = new ArrayList<>();
    final Due due;
    boolean apart = false;

    RandomRunsTest(long seed, List<Method> methods, Due due) {
        random = new Random(seed);
        this.methods = methods;
        this.due = due;
    }

    public static void main(String[] args) throws Exception {
        List<Method> methods = new ArrayList<>();
        for (Method m : CandleTurns.class.getDeclaredMethods()) {
            if (Modifier.isPublic(m.getModifiers())) {
                methods.add(m);
            }
        }
        methods.sort(Comparator.comparing(Method::getName));
        Due due = new Due();
        due.due("public methods", methods.size(), 39);
        for (int run = 0; run < RUNS; run++) {
            new RandomRunsTest(run, methods, due).go();
        }
        due.end();
    }

    void go() throws Exception {
        while (history.size() < CALLS && !apart) {
            int choice = random.nextInt(60);
            if (choice < 5) {
                tellText();
            } else if (choice < 7 && plain.image != null) {
                tellTicks();
            } else {
                callAny();
            }
        }
    }

    void callAny() throws Exception {
        Method m = methods.get(random.nextInt(methods.size()));
        if (DEAR.contains(m.getName()) && random.nextInt(6) != 0) {
            m = methods.get(random.nextInt(methods.size()));
        }
        if (m.getName().equals("back") && random.nextInt(3) != 0) {
            return;
        }
        int[] args = new int[m.getParameterCount()];
        for (int i = 0; i < args.length; i++) {
            args[i] = random.nextInt(25) == 0 ? ODD[random.nextInt(ODD.length)] : likely(m.getName(), i, args);
        }
        call(m.getName(), args);
    }

    int call(String name, int... args) throws Exception {
        if (apart) {
            return 0;
        }
        Class<?>[] types = new Class<?>[args.length];
        Arrays.fill(types, int.class);
        Object[] given = Arrays.stream(args).boxed().toArray();
        String said = name + Arrays.toString(args);
        history.add(said);
        int want = (int) Plain.class.getMethod(name, types).invoke(plain, given);
        int got;
        try {
            got = (int) CandleTurns.class.getMethod(name, types).invoke(x, given);
        } catch (InvocationTargetException e) {
            e.getCause().printStackTrace(System.out);
            got = Integer.MIN_VALUE;
            want = 0;
        }
        due.due(said, got, want);
        if (got != want) {
            apart = true;
            System.out.println("  behind " + history);
        }
        return want;
    }

    int upTo(int least, int most) {
        return least + random.nextInt(most - least + 1);
    }

    int place() {
        return random.nextInt(3) == 0 ? 100 * upTo(0, 30) + upTo(0, 30) : 100 * upTo(8, 14) + upTo(8, 14);
    }

    int likely(String name, int i, int[] args) {
        int flame = upTo(0, Math.max(0, plain.w.candles.size() - 1 + random.nextInt(2)));
        switch (name) {
            case "flame": return i == 0 ? upTo(0, 5) : i == 1 ? place() : upTo(1, 9);
            case "told": return i == 0 ? flame : upTo(-1, 10);
            case "as": case "turns": return i == 0 ? flame : upTo(0, 6);
            case "set": return i == 0 ? flame : i == 1 ? upTo(0, 3) : setTo(args[1]);
            case "move": return i == 0 ? flame : place();
            case "glass": return i < 2 ? flame : upTo(-1, 2);
            case "push": return flame;
            case "reach": return i == 0 ? upTo(-1, 2) : upTo(0, 60);
            case "deal": return upTo(-1, 3);
            case "seed": return random.nextInt();
            case "run": return random.nextInt(8) == 0 ? upTo(0, 61) : upTo(1, 6);
            case "groups": case "soon": case "basin": return random.nextInt(10) == 0 ? upTo(118, 121) : upTo(0, 70);
            case "film": return i == 0 ? flame : upTo(0, 61);
            case "quiet": return i == 0 ? flame : upTo(0, 2);
            case "learn": return i == 0 ? upTo(0, 4) : flame;
            case "feed": return random.nextInt();
            case "trim": return upTo(0, plain.tape.length + 1);
            case "textTold": return i == 0 ? upTo(0, plain.w.texts.size()) : upTo(-1, 2);
            case "why": return upTo(-1, 3);
            case "count": return upTo(-1, 9);
            case "check": return random.nextInt(4) == 0 ? upTo(0, 31) : Math.max(1, plain.waiting.size() / 2);
            case "tell": return upTo(0, 3);
            default: return ofSheets(name, i);
        }
    }

    int setTo(int what) {
        int[] most = {10, 120, 1000};
        if (what == 2 && random.nextInt(3) == 0) {
            return upTo(0, 60);
        }
        return what >= 0 && what < 3 ? upTo(0, most[what]) : 0;
    }

    int ofSheets(String name, int i) {
        int sheet = random.nextInt(12) == 0 ? 4 : upTo(0, 3);
        int slot = random.nextInt(12) == 0 ? 5 : upTo(0, 4);
        switch (name) {
            case "sheet": return i == 0 ? sheet : i == 1 ? upTo(-1, 2) : upTo(-1, 26);
            case "mark": return i == 0 ? sheet : i == 1 ? upTo(-1, 12) : markTo();
            case "copy": return i == 0 || i == 2 ? sheet : upTo(-1, 9);
            case "lay": return i == 0 ? slot : i == 1 ? upTo(0, 4) : upTo(-1, 7);
            case "ask": return i == 0 ? slot : upTo(0, 6);
            case "item": return i == 0 ? slot : upTo(-1, 12);
            case "rest": return i == 0 ? slot : upTo(-3, 3);
            default: return sheet;
        }
    }

    int markTo() {
        switch (random.nextInt(8)) {
            case 0: return Due.NONE;
            case 1: return upTo(99998, 100001);
            case 2: return upTo(-100001, -99998);
            case 3: return random.nextInt();
            default: return upTo(-1, 121);
        }
    }

    /** Numbers as they are due, often with one that is not, or that is missing, or with one too many. */
    void tellTicks() throws Exception {
        int n = upTo(1, random.nextInt(5) == 0 ? 30 : 5);
        if (plain.waiting.size() > 0) {
            call("check", n);
        }
        Plain.World t = plain.image.twin();
        List<Integer> told = new ArrayList<>();
        for (int i = 0; i < n; i++) {
            int flashed = t.tick();
            told.add(t.spread());
            told.add(flashed);
        }
        int spoilt = random.nextInt(5);
        int at = random.nextInt(told.size());
        if (spoilt == 0) {
            told.set(at, told.get(at) + 1);
        } else if (spoilt == 1) {
            told.remove(told.size() - 1);
        } else if (spoilt == 2) {
            told.add(0);
        }
        for (int v : told) {
            call("tell", v);
        }
        call("check", n);
    }

    void tellText() throws Exception {
        if (plain.tape.length > 0) {
            call("trim", 0);
        }
        String key = new String[] {"pace", "join", "wind"}[random.nextInt(3)];
        String names = key.equals("pace") ? "sn" : key.equals("join") ? "dps" : "tn";
        StringBuilder s = new StringBuilder(random.nextInt(4) == 0 ? "  " : "").append(key).append(' ');
        write(s, names, 0, upTo(1, 5));
        for (int i = random.nextInt(2) * random.nextInt(3); i > 0; i--) {
            spoil(s);
        }
        byte[] bytes = s.substring(0, Math.min(96, s.length())).getBytes(StandardCharsets.ISO_8859_1);
        for (int i = 0; i < bytes.length; i += 12) {
            call("feed", Due.four(bytes, i), Due.four(bytes, i + 4), Due.four(bytes, i + 8));
        }
        call("trim", bytes.length);
        int number = call("text");
        if (number >= 0) {
            call("textTold", number, 1);
        }
    }

    void write(StringBuilder s, String names, int depth, int size) {
        blank(s);
        int choice = depth > 14 ? 0 : random.nextInt(10);
        if (choice < 3 || size <= 1 && choice < 8) {
            s.append(random.nextBoolean() ? String.valueOf(names.charAt(random.nextInt(names.length()))) : String.valueOf(random.nextInt(random.nextInt(4) == 0 ? 12000 : 50)));
        } else if (choice == 8) {
            s.append("!".repeat(random.nextInt(6) == 0 ? upTo(1, 9) : 1));
            write(s, names, depth + 1, 1);
        } else if (choice == 9) {
            int many = random.nextInt(6) == 0 ? upTo(1, 9) : 1;
            s.append("(".repeat(many));
            write(s, names, depth + 1, size);
            s.append(")".repeat(many));
        } else {
            write(s, names, depth + 1, size - 1);
            s.append("+-*/<=>&|+-*/".charAt(random.nextInt(13)));
            write(s, names, depth + 1, size - 1);
        }
        blank(s);
    }

    void blank(StringBuilder s) {
        s.append(" ".repeat(random.nextInt(5) == 0 ? upTo(1, 2) : 0));
    }

    void spoil(StringBuilder s) {
        String signs = "abcdnpst0123456789+-*/<=>&|!() ()!!({Z\u00e9\u0000";
        int at = random.nextInt(s.length());
        switch (random.nextInt(4)) {
            case 0: s.deleteCharAt(at); break;
            case 1: s.insert(at, signs.charAt(random.nextInt(signs.length()))); break;
            case 2: s.setCharAt(at, signs.charAt(random.nextInt(signs.length()))); break;
            default: s.setLength(Math.max(1, at)); break;
        }
        if (s.length() == 0) {
            s.append(' ');
        }
    }
}
